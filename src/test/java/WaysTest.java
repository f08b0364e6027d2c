/** Promises 12 to 14: ways, the first field on them, the hub. */
public final class WaysTest {
    private static final Check check = new Check("WaysTest");

    public static void main(String[] args) {
        nothing();
        twoWaysOfLikeLength();
        roundaboutIsShorter();
        longChain();
        hubs();
        check.close();
    }

    private static void nothing() {
        WhistleRoster x = new WhistleRoster();
        check.due("way(0, 0)", x.way(0, 0), -1);
        check.due("toward(0, 0)", x.toward(0, 0), -1);
        check.due("hub()", x.hub(), -1);
    }

    private static void twoWaysOfLikeLength() {
        WhistleRoster x = Check.of("field a;field b;field c;field e;field q;road a b 10;road c b 10;road e a 5;road e c 15;");
        int[][] ways = {{0, 10, 20, 5, -1}, {10, 0, 10, 15, -1}, {20, 10, 0, 15, -1}, {5, 15, 15, 0, -1}, {-1, -1, -1, -1, 0}};
        int[][] firsts = {{-1, 1, 1, 3, -1}, {0, -1, 2, 0, -1}, {1, 1, -1, 3, -1}, {0, 0, 2, -1, -1}, {-1, -1, -1, -1, -1}};
        for (int from = 0; from < 5; from++) {
            for (int to = 0; to < 5; to++) {
                check.due("way(" + from + ", " + to + ")", x.way(from, to), ways[from][to]);
                check.due("toward(" + from + ", " + to + ")", x.toward(from, to), firsts[from][to]);
            }
        }
        int[] wrong = {-1, 5, 6, Integer.MIN_VALUE, Integer.MAX_VALUE};
        for (int field : wrong) {
            check.due("way(0, " + field + ")", x.way(0, field), -1);
            check.due("way(" + field + ", 0)", x.way(field, 0), -1);
            check.due("way(" + field + ", " + field + ")", x.way(field, field), -1);
            check.due("toward(0, " + field + ")", x.toward(0, field), -1);
            check.due("toward(" + field + ", 0)", x.toward(field, 0), -1);
        }
        check.due("hub() of like ones", x.hub(), 0);
    }

    private static void roundaboutIsShorter() {
        WhistleRoster x = Check.of("field a;field b;field c;road a b 200;road a c 10;road c b 10;");
        check.due("way", x.way(0, 1), 20);
        check.due("toward", x.toward(0, 1), 2);
        check.due("toward back", x.toward(1, 0), 2);
        check.due("hub", x.hub(), 2);
        x = Check.of("field a;field b;field c;road a b 20;road a c 10;road c b 10;");
        check.due("the straight road is on a way too", x.toward(0, 1), 1);
    }

    private static void longChain() {
        WhistleRoster x = Check.of("field fa;field fb;field fc;field fd;field fe;field ff;road fa fb 240;road fb fc 240;"
            + "road fc fd 240;road fd fe 240;road fe ff 240;");
        check.due("a way beyond 999", x.way(0, 5), 1200);
        check.due("back", x.way(5, 0), 1200);
        check.due("toward", x.toward(0, 5), 1);
        check.due("toward", x.toward(5, 0), 4);
        check.due("hub", x.hub(), 2);
    }

    private static void hubs() {
        check.due("hub of one", Check.of("field a;").hub(), 0);
        check.due("hub without roads", Check.of("field a;field b;field c;").hub(), 0);
        check.due("hub is where ways are", Check.of("field a;field b;field c;road b c 1;").hub(), 1);
        WhistleRoster x = Check.of("field fa;field fb;field fc;field fd;field fe;field ff;road fa fb 1;road fe ff 1;road fb fc 240;");
        check.due("a way that there isn't is 999", x.hub(), 1);
        x = Check.of("field a;field b;road a b 240;");
        check.due("hub of two", x.hub(), 0);
        x = Check.of("field a;field b;field c;field e;field g;road a b 100;road b c 90;road c e 80;road e g 70;");
        check.due("hub in the middle", x.hub(), 2);
    }
}
