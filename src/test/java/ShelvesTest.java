import java.util.NoSuchElementException;

/** Promises 39 to 41: shelves of numbers or of names. */
public final class ShelvesTest {
    private static final Check check = new Check("ShelvesTest");
    private static final Class<NoSuchElementException> NO_SUCH = NoSuchElementException.class;
    private static final Class<IllegalArgumentException> ILLEGAL = IllegalArgumentException.class;
    private static final int[] NO_SHELVES = {-1, 3, Integer.MIN_VALUE, Integer.MAX_VALUE};

    public static void main(String[] args) {
        made();
        laid();
        names();
        stay();
        check.close();
    }

    private static void made() {
        WhistleRoster x = Check.of("field a;one p 1 at a;");
        for (int shelf = 0; shelf < 3; shelf++) {
            int s = shelf;
            check.throwsOut("look on none made", NO_SUCH, () -> x.look(s, 0));
            check.throwsOut("lay on none made", NO_SUCH, () -> x.lay(s, 0, 0, false) ? 1 : 0);
            check.throwsOut("sort", ILLEGAL, () -> x.shelf(s, 2, 1));
            check.throwsOut("sort", ILLEGAL, () -> x.shelf(s, -1, 1));
            check.throwsOut("many", ILLEGAL, () -> x.shelf(s, 0, 21));
            check.throwsOut("many", ILLEGAL, () -> x.shelf(s, 1, -1));
            check.throwsOut("many", ILLEGAL, () -> x.shelf(s, 1, Integer.MAX_VALUE));
            check.throwsOut("still none made", NO_SUCH, () -> x.look(s, 0));
        }
        for (int shelf : NO_SHELVES) {
            check.throwsOut("no such shelf", NO_SUCH, () -> x.shelf(shelf, 0, 1));
            check.throwsOut("no such shelf, and another sort", NO_SUCH, () -> x.shelf(shelf, 2, 99));
            check.throwsOut("no such shelf", NO_SUCH, () -> x.look(shelf, 0));
            check.throwsOut("no such shelf", NO_SUCH, () -> x.lay(shelf, 0, 0, true) ? 1 : 0);
        }
        check.due("shelf", x.shelf(0, 0, 0), 0);
        check.throwsOut("no place", NO_SUCH, () -> x.look(0, 0));
        check.due("shelf", x.shelf(1, 1, 20), 20);
        for (int place = 0; place < 20; place++) {
            check.due("empty", x.look(1, place), -1);
        }
        check.throwsOut("no place", NO_SUCH, () -> x.look(1, 20));
        check.throwsOut("no place", NO_SUCH, () -> x.look(1, -1));
        check.throwsOut("another one is not made yet", NO_SUCH, () -> x.look(2, 0));
    }

    private static void laid() {
        WhistleRoster x = Check.of("field a;club k;club l;one p 1 at a;one q 2 at a;game k l at a on 0 0 for 10 grade 1;");
        check.due("shelf", x.shelf(0, 0, 3), 3);
        check.due("shelf", x.shelf(2, 1, 2), 2);
        check.due("put and days", x.put(0, 0, 1) + x.day() + x.day(), 1);
        check.due("mark", x.mark(0, 0, 77), 56);
        check.due("lay", x.lay(0, 1, 1, false), true);
        check.due("look", x.look(0, 1), Float.floatToIntBits(56.75f));
        check.due("look elsewhere", x.look(0, 0), -1);
        check.due("lay", x.lay(0, 2, 0, false), true);
        check.due("look", x.look(0, 2), Float.floatToIntBits(50f));
        check.due("lay on it", x.lay(0, 1, 0, false), true);
        check.due("look", x.look(0, 1), Float.floatToIntBits(50f));
        check.due("a name among numbers", x.lay(0, 1, 1, true), false);
        check.due("nothing changes", x.look(0, 1), Float.floatToIntBits(50f));
        check.due("a number among names", x.lay(2, 0, 1, false), false);
        check.due("nothing changes", x.look(2, 0), -1);
        check.due("a name", x.lay(2, 0, 1, true), true);
        check.due("look", x.look(2, 0), 17);
        int[] places = {-1, 3, 20, Integer.MIN_VALUE, Integer.MAX_VALUE};
        for (int place : places) {
            check.throwsOut("no such place", NO_SUCH, () -> x.lay(0, place, 0, false) ? 1 : 0);
            check.throwsOut("no such place, other sort", NO_SUCH, () -> x.lay(0, place, 0, true) ? 1 : 0);
            check.throwsOut("no such place", NO_SUCH, () -> x.look(0, place));
        }
        int[] nobody = {-1, 2, 10, Integer.MIN_VALUE, Integer.MAX_VALUE};
        for (int official : nobody) {
            check.throwsOut("no such official", NO_SUCH, () -> x.lay(0, 1, official, false) ? 1 : 0);
            check.throwsOut("no such official, other sort", NO_SUCH, () -> x.lay(0, 1, official, true) ? 1 : 0);
        }
        check.throwsOut("not made", NO_SUCH, () -> x.lay(1, 0, 0, false) ? 1 : 0);
        check.due("nothing changes", x.look(0, 1), Float.floatToIntBits(50f));
        check.due("made anew", x.shelf(0, 1, 2), 2);
        check.due("empty", x.look(0, 1), -1);
        check.throwsOut("a place less", NO_SUCH, () -> x.look(0, 2));
        check.due("of the other sort", x.lay(0, 1, 0, false), false);
        check.due("of the other sort", x.lay(0, 1, 0, true), true);
        check.due("look", x.look(0, 1), 16);
        check.throwsOut("refused", ILLEGAL, () -> x.shelf(0, 0, 21));
        check.due("what lies there stays", x.look(0, 1), 16);
        check.due("no acts", x.has(9), 4);
    }

    private static void names() {
        WhistleRoster x = Check.of("field a;one ab 1 at a;one ba 1 at a;one zzzzzz 1 at a;one aaaaaa 1 at a;one roster 1 at a;");
        long[] due = {29, 55, 387420488L, 14900788L, 0};
        String last = "roster";
        for (char c : last.toCharArray()) {
            due[4] = due[4] * 27 + (c - 'a' + 1);
        }
        check.due("shelf", x.shelf(1, 1, 5), 5);
        for (int o = 0; o < 5; o++) {
            check.due("lay", x.lay(1, 4 - o, o, true), true);
            check.due("look", x.look(1, 4 - o), due[o]);
        }
    }

    private static void stay() {
        WhistleRoster x = Check.of("field a;club k;club l;one p 1 at a;game k l at a on 0 0 for 10 grade 1;");
        check.due("shelf", x.shelf(0, 0, 2) + x.shelf(1, 1, 2), 4);
        check.due("put and days", x.put(0, 0, 0) + x.day() + x.day(), 1);
        check.due("lay", x.lay(1, 0, 0, true), true);
        check.due("mark", x.mark(0, 0, 0), 37);
        check.due("lay", x.lay(0, 0, 0, false), true);
        check.due("undo", x.undo(), 3);
        check.due("shelves stay", x.look(0, 0), Float.floatToIntBits(37.5f));
        check.due("not so forms", x.formBits(0), Float.floatToIntBits(50f));
        check.due("a week", x.week(), 0);
        check.due("shelves stay", x.look(0, 0), Float.floatToIntBits(37.5f));
        check.due("shelves stay", x.look(1, 0), 16);
        check.throwsOut("nobody is there any more", NO_SUCH, () -> x.lay(0, 1, 0, false) ? 1 : 0);
    }
}
