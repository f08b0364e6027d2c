/** Promises 30 to 32: rounds, trips from home and back, how seats are spread. */
public final class TripsTest {
    private static final Check check = new Check("TripsTest");
    private static final String GROUND = "field a;field b;field c;field z;road a b 30;road b c 20;club k;club l;";

    public static void main(String[] args) {
        rounds();
        trips();
        nobodyThere();
        spreads();
        check.close();
    }

    private static WhistleRoster busy() {
        // game 2 begins ahead of game 0, game 1 ahead of both
        WhistleRoster x = Check.of(GROUND + "one p 3 at a;one q 3 at c;rest 15;most 4;"
            + "game k l at c on 2 700 for 60 grade 1 by 2;game k l at b on 2 20 for 60 grade 1 by 3;game k l at c on 2 400 for 30 grade 1;"
            + "game k l at b on 2 1000 for 140 grade 1;game k l at a on 6 1299 for 140 grade 1;");
        check.due("puts", x.put(0, 1, 0) + x.put(1, 2, 0) + x.put(2, 0, 0) + x.put(3, 0, 0) + x.put(4, 0, 0), 0);
        return x;
    }

    private static void rounds() {
        WhistleRoster x = busy();
        check.due("as they begin", x.round(0, 2), 30 + 20 + 0 + 20 + 30);
        check.due("at home", x.round(0, 6), 0);
        check.due("without games", x.round(0, 0), 0);
        check.due("without games", x.round(1, 2), 0);
        check.due("drop", x.drop(2, 0), 0);
        check.due("round", x.round(0, 2), 100);
        check.due("drop", x.drop(0, 1), 0);
        check.due("round", x.round(0, 2), 60);
        int[][] none = {{2, 2}, {-1, 2}, {0, -1}, {0, 7}, {Integer.MAX_VALUE, 0}, {0, Integer.MIN_VALUE}};
        for (int[] a : none) {
            check.due("round of none such", x.round(a[0], a[1]), -1);
            for (int what = 0; what < 4; what++) {
                check.due("trip of none such", x.trip(a[0], a[1], what), -10000);
            }
        }
        // games told in turn, begun in turn: other orders would be longer
        x = Check.of(GROUND + "one p 3 at a;rest 0;most 4;game k l at c on 0 300 for 10 grade 1;game k l at b on 0 100 for 10 grade 1;"
            + "game k l at b on 0 500 for 10 grade 1;game k l at c on 0 700 for 10 grade 1;");
        check.due("puts", x.put(0, 0, 0) + x.put(1, 0, 0) + x.put(2, 0, 0) + x.put(3, 0, 0), 0);
        check.due("there and back twice", x.round(0, 0), 30 + 20 + 20 + 20 + 50);
    }

    private static void trip(WhistleRoster x, int official, int day, int... due) {
        for (int what = 0; what < 4; what++) {
            check.due("trip(" + official + ", " + day + ", " + what + ")", x.trip(official, day, what), due[what]);
        }
        check.due("another what", x.trip(official, day, 4), -10000);
        check.due("another what", x.trip(official, day, -1), -10000);
    }

    private static void trips() {
        WhistleRoster x = busy();
        trip(x, 0, 2, 20 - 15 - 30, 1140 + 30, 6, 4);
        trip(x, 0, 6, 1299 - 15, 1299 + 140, 1, 1);
        trip(x, 0, 3, -10000, -10000, 0, 0);
        trip(x, 1, 2, -10000, -10000, 0, 0);
        check.due("drop", x.drop(1, 2), 0);
        check.due("drop", x.drop(3, 0), 0);
        trip(x, 0, 2, 400 - 15 - 50, 760 + 50, 4, 2);
        check.due("put", x.put(1, 0, 1), 0);
        trip(x, 1, 2, 20 - 15 - 20, 80 + 20, 2, 1);
        check.due("days", x.day() + x.day() + x.day() + x.day(), 6);
        trip(x, 1, 2, 20 - 15 - 20, 80 + 20, 2, 1);
    }

    private static void nobodyThere() {
        WhistleRoster x = new WhistleRoster();
        check.due("round", x.round(0, 0), -1);
        check.due("trip", x.trip(0, 0, 3), -10000);
        for (int what = -1; what < 4; what++) {
            check.due("spread(" + what + ")", x.spread(what), -1);
        }
    }

    private static void spread(WhistleRoster x, int... due) {
        for (int what = 0; what < 3; what++) {
            check.due("spread(" + what + ")", x.spread(what), due[what]);
        }
        check.due("another what", x.spread(3), -1);
        check.due("another what", x.spread(-1), -1);
    }

    private static void spreads() {
        WhistleRoster x = Check.of(GROUND + "one p 3 at a;one q 3 at a;one r 3 at a;"
            + "game k l at a on 0 0 for 60 grade 1 by 3;game k l at a on 1 0 for 60 grade 1 by 3;game k l at a on 2 0 for 60 grade 1 by 3;");
        spread(x, 0, 0, 0);
        check.due("put", x.put(0, 0, 1), 0);
        spread(x, 1, 1, 0);
        check.due("puts", x.put(0, 2, 2), 0);
        spread(x, 1, 1, 0);
        check.due("puts", x.put(1, 2, 2) + x.put(2, 1, 2), 0);
        spread(x, 3, 2, 0);
        check.due("puts", x.put(1, 1, 0) + x.put(2, 0, 0), 0);
        spread(x, 2, 2, 1);
        check.due("puts", x.put(0, 1, 0), 0);
        spread(x, 2, 0, 1);
        check.due("puts", x.put(1, 0, 1) + x.put(2, 2, 1), 0);
        spread(x, 0, 0, 0);
        spread(Check.of(GROUND + "one p 3 at a;"), 0, 0, 0);
    }
}
