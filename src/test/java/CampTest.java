/** Promises 6 to 16, 41 and 42: heaps, sleepers, cracks, pieces and parts. */
public final class CampTest {
    private static final long ALL = 1000000000000L;
    private static final String FLOE = "floe wide 6 deep 4 people 4 days 10;";
    private static final String TWO = FLOE
            + "crack down 3 odds 100 swell 5 warm 10 weight 50;"
            + "crack along 2 odds 50 swell 0 warm 0 weight 10 old;"
            + "sort food gives 10 tons 2 many 4;sort beds gives 2 tons 1 many 2;"
            + "sort seats gives 4 tons 30 many 2;";
    private static final Check CHECK = new Check("CampTest");

    public static void main(String[] args) {
        heap();
        put();
        sleep();
        open();
        lies();
        near();
        odds();
        piece();
        pieces();
        part();
        with();
        thin();
        apart();
        CHECK.finish();
    }

    private static void heap() {
        PencilLine x = Check.on(TWO);
        CHECK.due("6 new", x.heap(0, 0, 0), 0);
        CHECK.due("6 last", x.heap(7, 5, 3), 0);
        CHECK.due("6 on one cell", x.heap(1, 5, 3), 0);
        CHECK.due("6 three", x.count(7), 3);
        int[][] wrong = {{-1, 0, 0}, {8, 0, 0}, {0, 6, 0}, {0, 0, 4}, {0, -2, 0}, {0, 0, -1}, {8, -1, 0},
            {-1, -1, 0}, {0, 1, -1}, {0, 1000000000, 1}};
        for (int[] w : wrong) {
            CHECK.due("6 wrong " + w[0] + " " + w[1] + " " + w[2], x.heap(w[0], w[1], w[2]), -2);
        }
        CHECK.due("6 stays", x.lies(0, 0), 0);
        x.put(7, 0, 3);
        CHECK.due("6 moved", x.heap(7, 1, 2), 1);
        CHECK.due("6 it keeps what it has", x.lies(7, 3), 3);
        CHECK.due("6 it is there", x.lies(7, 1), 2);
        CHECK.due("6 off, whatever y", x.heap(7, -1, 99), 1);
        CHECK.due("6 off again", x.heap(7, -1, -99), 0);
        CHECK.due("6 none now", x.lies(7, 0), -1);
        CHECK.due("6 two", x.count(7), 2);
        CHECK.due("6 again", x.heap(7, 1, 2), 0);
        CHECK.due("6 it has nothing", x.lies(7, 3), 0);
        CHECK.due("6 its units are free", x.put(7, 0, 4), 0);
    }

    private static void put() {
        PencilLine x = Check.on(TWO);
        CHECK.due("7 no heap", x.put(0, 0, 1), -2);
        x.heap(0, 1, 1);
        x.heap(1, 2, 2);
        CHECK.due("7 put", x.put(0, 0, 3), 1);
        CHECK.due("7 the rest", x.put(1, 0, 1), 0);
        CHECK.due("7 more than many", x.put(1, 0, 2), -3);
        CHECK.due("7 nothing happens", x.lies(1, 3), 1);
        CHECK.due("7 in place", x.put(0, 0, 1), 2);
        CHECK.due("7 none", x.put(0, 0, 0), 3);
        CHECK.due("7 far too many", x.put(0, 0, Integer.MAX_VALUE), -3);
        CHECK.due("7 below 0", x.put(0, 0, -1), -2);
        CHECK.due("7 no sort", x.put(0, 3, 0), -2);
        CHECK.due("7 no sort", x.put(0, -1, 0), -2);
        CHECK.due("7 no heap now, too many", x.put(2, 0, 9), -2);
        CHECK.due("7 no such heap", x.put(8, 0, 1), -2);
        CHECK.due("7 no such heap", x.put(-1, 0, 1), -2);
        CHECK.due("7 other sorts for themselves", x.put(1, 1, 2), 0);
    }

    private static void sleep() {
        PencilLine x = Check.on(TWO);
        CHECK.due("8 all sleep", x.count(12), 4);
        CHECK.due("8 one more", x.sleep(1, 5, 3, 1), -3);
        CHECK.due("8 in place", x.sleep(0, 0, 0, 3), 3);
        CHECK.due("8 the last", x.sleep(3, 5, 3, 1), 4);
        CHECK.due("8 more than there are", x.sleep(3, 0, 0, 28), -3);
        CHECK.due("8 nothing happens", x.lacks(1, 1), 4);
        CHECK.due("8 29", x.sleep(3, 0, 0, 29), -2);
        CHECK.due("8 below 0", x.sleep(3, 0, 0, -1), -2);
        CHECK.due("8 no group", x.sleep(4, 0, 0, 0), -2);
        CHECK.due("8 no group", x.sleep(-1, 0, 0, 0), -2);
        CHECK.due("8 no cell", x.sleep(0, 6, 0, 0), -2);
        CHECK.due("8 no cell", x.sleep(0, 0, 4, 0), -2);
        CHECK.due("8 no cell", x.sleep(0, -1, 0, 0), -2);
        CHECK.due("8 no cell, too many", x.sleep(0, 0, -1, 28), -2);
        CHECK.due("8 none", x.sleep(0, 1, 1, 0), 1);
        PencilLine most = Check.on("floe wide 2 deep 2 people 28 days 1;");
        CHECK.due("8 28", most.sleep(0, 1, 1, 28), 28);
    }

    private static void open() {
        PencilLine x = Check.on(TWO);
        CHECK.due("9 none were", x.open(3), 0);
        CHECK.due("9 both were", x.open(1), 3);
        CHECK.due("9 no set", x.open(4), -2);
        CHECK.due("9 no set", x.open(-1), -2);
        CHECK.due("9 no set", x.open(Integer.MIN_VALUE), -2);
        CHECK.due("9 stays", x.count(8), 1);
        PencilLine none = Check.on(FLOE);
        CHECK.due("9 the empty set", none.open(0), 0);
        CHECK.due("9 no cracks", none.open(1), -2);
        PencilLine most = Check.on(FLOE + "crack down 3 odds 1 swell 1 warm 1 weight 1;".repeat(7));
        CHECK.due("9 all of seven", most.open(127), 0);
        CHECK.due("9 above seven", most.open(128), -2);
    }

    private static void lies() {
        PencilLine x = Check.on(TWO);
        x.heap(5, 4, 3);
        x.put(5, 0, 3);
        x.put(5, 2, 1);
        int[] due = {4, 3, 36, 3, 0, 1, -2, -2};
        PencilLine none = Check.on(FLOE);
        none.heap(0, 1, 1);
        CHECK.due("10 no sort at all", none.lies(0, 3), -2);
        CHECK.due("10 no tons", none.lies(0, 2), 0);
        for (int what = 0; what < due.length; what++) {
            CHECK.due("10 lies(5, " + what + ")", x.lies(5, what), due[what]);
            CHECK.due("10 lies(4, " + what + ")", x.lies(4, what), what < 6 ? -1 : -2);
            CHECK.due("10 lies(8, " + what + ")", x.lies(8, what), -2);
            CHECK.due("10 lies(-1, " + what + ")", x.lies(-1, what), -2);
        }
        CHECK.due("10 below 0", x.lies(5, -1), -2);
        CHECK.due("10 least", x.lies(5, Integer.MIN_VALUE), -2);
        CHECK.due("10 most", x.lies(5, Integer.MAX_VALUE), -2);
    }

    private static void near() {
        PencilLine x = Check.on(TWO);
        for (int i = 0; i < 2; i++) {
            CHECK.due("11 nothing lies", x.near(i), 0);
        }
        x.heap(0, 2, 0);
        x.put(0, 2, 1);
        CHECK.due("11 ahead of down 3", x.near(0), 30);
        CHECK.due("11 not by along 2", x.near(1), 0);
        x.heap(0, 3, 1);
        CHECK.due("11 behind down 3", x.near(0), 30);
        CHECK.due("11 ahead of along 2", x.near(1), 30);
        x.heap(1, 0, 2);
        x.put(1, 0, 2);
        CHECK.due("11 both rows", x.near(1), 34);
        CHECK.due("11 one column", x.near(0), 30);
        x.heap(0, 4, 3);
        CHECK.due("11 two columns off", x.near(0), 0);
        CHECK.due("11 two rows off", x.near(1), 4);
        CHECK.due("11 no crack", x.near(2), -2);
        CHECK.due("11 no crack", x.near(-1), -2);
    }

    private static void odds() {
        PencilLine x = Check.on(TWO + "sea swell 3 warm 2;");
        CHECK.due("12 by swell and warmth", x.odds(0), 135);
        CHECK.due("12 old is twice", x.odds(1), 100);
        x.heap(0, 2, 1);
        x.put(0, 2, 1);
        x.put(0, 1, 1);
        CHECK.due("12 by weight, cut", x.odds(0), 150);
        CHECK.due("12 old, cut ahead of the doubling", x.odds(1), 106);
        CHECK.due("12 no crack", x.odds(2), -2);
        CHECK.due("12 no crack", x.odds(-1), -2);
        PencilLine most = Check.on("floe wide 2 deep 2 people 1 days 1;sea swell 9 warm 9;"
                + "crack down 1 odds 500 swell 99 warm 99 weight 99;"
                + "crack down 1 odds 500 swell 99 warm 99 weight 70 old;"
                + "sort food gives 1 tons 99 many 20;".repeat(6));
        CHECK.due("12 without weight", most.odds(0), 2282);
        CHECK.due("12 old without weight", most.odds(1), 4564);
        most.heap(3, 0, 1);
        most.lay(0);
        CHECK.due("12 all tons", most.near(0), 11880);
        CHECK.due("12 10,000 at most", most.odds(0), 10000);
        CHECK.due("12 old, 10,000 at most", most.odds(1), 10000);
    }

    private static void piece() {
        PencilLine x = Check.on(FLOE + "crack down 3 odds 0 swell 0 warm 0 weight 0;"
                + "crack down 1 odds 0 swell 0 warm 0 weight 0;"
                + "crack along 1 odds 0 swell 0 warm 0 weight 0;"
                + "crack along 1 odds 0 swell 0 warm 0 weight 0;");
        CHECK.due("13 nothing open", x.piece(0, 5, 3), 0);
        CHECK.due("13 ahead of all", x.piece(15, 0, 0), 0);
        CHECK.due("13 at the first", x.piece(15, 1, 0), 1);
        CHECK.due("13 between", x.piece(15, 2, 0), 1);
        CHECK.due("13 at the second", x.piece(15, 3, 0), 2);
        CHECK.due("13 two at one place", x.piece(15, 5, 3), 18);
        CHECK.due("13 one of them", x.piece(7, 5, 1), 10);
        CHECK.due("13 other bits", x.piece(2, 5, 3), 1);
        CHECK.due("13 one", x.piece(1, 2, 3), 0);
        int[][] wrong = {{16, 0, 0}, {-1, 0, 0}, {0, 6, 0}, {0, 0, 4}, {0, -1, 0}, {0, 0, -1}};
        for (int[] w : wrong) {
            CHECK.due("13 wrong", x.piece(w[0], w[1], w[2]), -2);
        }
        CHECK.due("14 all", x.pieces(15), 6);
        CHECK.due("14 two at one place", x.pieces(12), 2);
        CHECK.due("14 none", x.pieces(0), 1);
        CHECK.due("14 no set", x.pieces(16), -2);
        CHECK.due("14 no set", x.pieces(-1), -2);
        PencilLine most = Check.on("floe wide 12 deep 12 people 1 days 1;"
                + "crack along 11 odds 0 swell 0 warm 0 weight 0;".repeat(7));
        CHECK.due("13 seven along", most.piece(127, 11, 11), 56);
        CHECK.due("13 seven along, ahead", most.piece(127, 11, 10), 0);
        CHECK.due("14 seven along", most.pieces(127), 2);
    }

    private static void pieces() {
        PencilLine x = Check.on(FLOE + "crack down 1 odds 0 swell 0 warm 0 weight 0;"
                + "crack down 5 odds 0 swell 0 warm 0 weight 0;crack along 1 odds 0 swell 0 warm 0 weight 0;"
                + "crack along 2 odds 0 swell 0 warm 0 weight 0;crack along 3 odds 0 swell 0 warm 0 weight 0;");
        CHECK.due("14 three by four", x.pieces(31), 12);
        CHECK.due("14 three by two", x.pieces(11), 6);
    }

    private static void part() {
        PencilLine x = Check.on(TWO + "shuts 25;");
        // 100 and 100 of 10,000
        CHECK.due("15 none", x.part(0), 980100000000L);
        CHECK.due("15 first", x.part(1), 9900000000L);
        CHECK.due("15 second", x.part(2), 9900000000L);
        CHECK.due("15 both", x.part(3), 100000000L);
        x.open(1);
        CHECK.due("15 it stays open", x.part(1), 742500000000L);
        CHECK.due("15 it shuts", x.part(0), 247500000000L);
        CHECK.due("15 no set", x.part(4), -2);
        CHECK.due("15 no set", x.part(-1), -2);
        PencilLine cut = Check.on(FLOE + "crack down 1 odds 1 swell 0 warm 0 weight 0;".repeat(4));
        CHECK.due("15 cut each time", cut.part(15), 0);
        CHECK.due("15 three", cut.part(7), 1);
        CHECK.due("15 the last three", cut.part(14), 0);
        PencilLine none = Check.on(FLOE);
        CHECK.due("15 no cracks", none.part(0), ALL);
        CHECK.due("15 no set", none.part(1), -2);
    }

    private static void with() {
        PencilLine x = Check.on(TWO);
        long[] due = {980100000000L, 19800000000L, 100000000L};
        for (int n = 0; n <= 2; n++) {
            CHECK.due("16 with(" + n + ")", x.with(n, false), due[n]);
            CHECK.due("16 lost alone", x.with(n, true), due[n]);
        }
        CHECK.due("16 below 0", x.with(-1, false), -2);
        CHECK.due("16 above all", x.with(3, true), -2);
        x.sleep(0, 0, 0, 0);
        CHECK.due("16 enough for none", x.with(1, true), 0);
        // two people with a heap for them, parted from it by the first crack alone
        PencilLine y = Check.on("floe wide 6 deep 4 people 2 days 1;"
                + "crack down 3 odds 100 swell 0 warm 0 weight 0;crack along 3 odds 200 swell 0 warm 0 weight 0;"
                + "sort food gives 2 tons 1 many 1;");
        y.heap(0, 4, 0);
        y.put(0, 0, 1);
        CHECK.due("16 first lost", y.with(1, true), 9800000000L);
        CHECK.due("16 both of one", y.with(1, false), 29600000000L);
        CHECK.due("16 none lost", y.with(0, true), 0);
        PencilLine none = new PencilLine();
        CHECK.due("16 no floe", none.with(0, false), -2);
    }

    private static void thin() {
        PencilLine x = Check.on(TWO + "sea swell 3 warm 2;");
        x.heap(0, 2, 1);
        x.put(0, 2, 1);
        CHECK.due("41 odds are so", x.thin(0, 150), 0);
        CHECK.due("41 one less", x.thin(0, 149), 1);
        CHECK.due("41 three less", x.thin(0, 147), 5);
        CHECK.due("41 all of it", x.thin(0, 135), 29);
        CHECK.due("41 that does not do", x.thin(0, 134), -1);
        CHECK.due("41 at 0", x.thin(0, 0), -1);
        CHECK.due("41 at 10,000", x.thin(0, 10000), 0);
        CHECK.due("41 old", x.thin(1, 104), 1);
        CHECK.due("41 old, odd", x.thin(1, 105), 1);
        CHECK.due("41 above", x.thin(0, 10001), -2);
        CHECK.due("41 below", x.thin(0, -1), -2);
        CHECK.due("41 no crack", x.thin(2, 1), -2);
        CHECK.due("41 no crack", x.thin(-1, 1), -2);
    }

    private static void apart() {
        PencilLine x = Check.on(TWO);
        CHECK.due("42 beside, ahead", x.apart(2, 0), 0);
        CHECK.due("42 beside, behind", x.apart(3, 0), 0);
        CHECK.due("42 one between", x.apart(1, 0), 1);
        CHECK.due("42 rows nearer", x.apart(0, 2), 0);
        CHECK.due("42 rows as near", x.apart(5, 3), 1);
        CHECK.due("42 no cell", x.apart(6, 0), -2);
        CHECK.due("42 no cell", x.apart(0, 4), -2);
        CHECK.due("42 no cell", x.apart(-1, 0), -2);
        CHECK.due("42 no cell", x.apart(0, -1), -2);
        PencilLine none = Check.on(FLOE);
        CHECK.due("42 no crack", none.apart(0, 0), -1);
        CHECK.due("42 no cell ahead of no crack", none.apart(6, 0), -2);
        PencilLine wide = Check.on("floe wide 12 deep 2 people 1 days 1;"
                + "crack down 11 odds 0 swell 0 warm 0 weight 0;");
        CHECK.due("42 far", wide.apart(0, 1), 10);
    }
}
