/** The boundaries of promises 6 to 18, 41 and 42: heaps, sleepers, cracks, pieces, parts, what is enough. */
public final class EdgeCampTest {
    private static final long ALL = 1000000000000L;
    private static final int LEAST = Integer.MIN_VALUE;
    private static final int MOST = Integer.MAX_VALUE;
    private static final String SMALL = "floe wide 2 deep 2 people 1 days 1;";
    private static final String CRACK = " odds 0 swell 0 warm 0 weight 0;";
    private static final Check CHECK = new Check("EdgeCampTest");
    private static final Whole WHOLE = new Whole(CHECK);

    public static void main(String[] args) {
        heapCells();
        heapRefused();
        heapThatIsThere();
        putRefused();
        putTooMany();
        putJustAll();
        sleepRefused();
        sleepTooMany();
        sleepJustAll();
        openSets();
        liesOfWhat();
        liesNone();
        nearCracks();
        nearCells();
        oddsCracks();
        oddsCut();
        oddsAtMost();
        pieceRefused();
        pieceCells();
        piecesSets();
        partSets();
        partCut();
        partWhole();
        withNumbers();
        enoughSets();
        enoughJust();
        lacksRefused();
        lacksJust();
        thinNumbers();
        thinJust();
        apartCells();
        apartNone();
        CHECK.finish();
    }

    // ---- 6 heap ----

    private static void heapCells() {
        int[][] sides = {{2, 2}, {12, 12}, {12, 2}, {2, 12}, {7, 5}};
        for (int[] side : sides) {
            PencilLine x = Check.on("floe wide " + side[0] + " deep " + side[1] + " people 1 days 1;");
            int w = side[0] - 1;
            int d = side[1] - 1;
            CHECK.due("6 the first cell", x.heap(0, 0, 0), 0);
            CHECK.due("6 the last of the first row", x.heap(0, w, 0), 1);
            CHECK.due("6 the first of the last row", x.heap(0, 0, d), 1);
            CHECK.due("6 the last cell", x.heap(0, w, d), 1);
            int[][] beyond = {{w + 1, 0}, {w + 1, d}, {0, d + 1}, {w, d + 1}, {w + 1, d + 1}, {-2, 0}, {0, -1}, {w, -1},
                {0, -2}, {LEAST, 0}, {MOST, 0}, {0, LEAST}, {0, MOST}};
            for (int[] b : beyond) {
                CHECK.due("6 heap(0, " + b[0] + ", " + b[1] + ")", x.heap(0, b[0], b[1]), -2);
                CHECK.due("6 a new one beyond", x.heap(1, b[0], b[1]), -2);
            }
            CHECK.due("6 x stays", x.lies(0, 0), w);
            CHECK.due("6 y stays", x.lies(0, 1), d);
            CHECK.due("6 no new one", x.count(7), 1);
        }
    }

    private static void heapRefused() {
        int[][] wrong = {{-1, 0, 0}, {8, 0, 0}, {-1, -1, 0}, {8, -1, 0}, {LEAST, 0, 0}, {MOST, 0, 0}, {MOST, -1, 0},
            {0, 6, 0}, {0, 0, 4}, {0, -2, 0}, {0, 0, -1}, {7, 6, 3}, {7, 5, 4}, {1, 6, 0}, {1, -2, 0}, {1, 0, -1},
            {3, LEAST, 0}, {3, 0, MOST}};
        for (int[] w : wrong) {
            WHOLE.stays("6 heap(" + w[0] + ", " + w[1] + ", " + w[2] + ")", -2, x -> x.heap(w[0], w[1], w[2]));
        }
        for (int heap = 0; heap < 8; heap++) {
            int asked = heap;
            WHOLE.staysNew("6 heap " + heap + " off", 0, x -> x.heap(asked, -1, 0));
            WHOLE.staysNew("6 heap " + heap + " on no cell", -2, x -> x.heap(asked, 0, 0));
        }
        WHOLE.stays("6 one that is not there, off", 0, x -> x.heap(1, -1, 5));
    }

    private static void heapThatIsThere() {
        PencilLine x = Whole.lived();
        CHECK.due("6 there was one", x.heap(0, 5, 3), 1);
        CHECK.due("6 it has what it had", x.lies(0, 4), 2);
        CHECK.due("6 none there yet", x.heap(1, 5, 3), 0);
        CHECK.due("6 it has nothing yet", x.lies(1, 2), 0);
        CHECK.due("6 now there is", x.heap(1, 5, 3), 1);
        for (int y : new int[] {0, -1, 4, LEAST, MOST}) {
            CHECK.due("6 off with y " + y, x.heap(0, -1, y), 1);
            CHECK.due("6 off already with y " + y, x.heap(0, -1, y), 0);
            CHECK.due("6 none any more", x.lies(0, 0), -1);
            CHECK.due("6 nothing can be put there", x.put(0, 1, 0), -2);
            CHECK.due("6 laid again", x.heap(0, 1, 1), 0);
            CHECK.due("6 it has nothing", x.lies(0, 2), 0);
            CHECK.due("6 its units are in no heap", x.put(0, 1, 2), 2);
        }
        CHECK.due("6 heap 7 stays", x.lies(7, 4), 1);
        CHECK.due("6 heap 3 stays", x.lies(3, 3), 2);
        PencilLine all = Check.on(SMALL);
        for (int heap = 0; heap < 8; heap++) {
            CHECK.due("6 heap " + heap, all.heap(heap, 1, 1), 0);
        }
        CHECK.due("6 all eight", all.count(7), 8);
    }

    // ---- 7 put ----

    private static void putRefused() {
        int[][] wrong = {{-1, 0, 0}, {8, 0, 0}, {LEAST, 0, 0}, {MOST, 0, 0}, {1, 0, 0}, {6, 1, 1}, {0, -1, 0}, {0, 2, 0},
            {0, 6, 0}, {0, LEAST, 0}, {0, MOST, 0}, {0, 0, -1}, {0, 0, LEAST}, {1, 0, 99}, {0, 2, 99}, {8, 0, 99}};
        for (int[] w : wrong) {
            WHOLE.stays("7 put(" + w[0] + ", " + w[1] + ", " + w[2] + ")", -2, x -> x.put(w[0], w[1], w[2]));
        }
        WHOLE.staysNew("7 put", -2, x -> x.put(0, 0, 0));
    }

    /** Food: 1 and 2 of 4 in heaps 0 and 3, seats: 2 and 1 of 5 in heaps 0 and 7. */
    private static void putTooMany() {
        int[][] tooMany = {{0, 0, 3}, {3, 0, 4}, {7, 0, 2}, {0, 1, 5}, {7, 1, 4}, {3, 1, 3}, {0, 0, MOST}, {7, 1, MOST}};
        for (int[] w : tooMany) {
            WHOLE.stays("7 put(" + w[0] + ", " + w[1] + ", " + w[2] + ")", -3, x -> x.put(w[0], w[1], w[2]));
        }
        int[][] all = {{0, 0, 2}, {3, 0, 3}, {7, 0, 1}, {0, 1, 4}, {7, 1, 3}, {3, 1, 2}};
        for (int[] w : all) {
            PencilLine x = Whole.lived();
            CHECK.due("7 just many", x.put(w[0], w[1], w[2]), 0);
            CHECK.due("7 in place of others", x.lies(w[0], 3 + w[1]), w[2]);
            CHECK.due("7 one less", x.put(w[0], w[1], w[2] - 1), 1);
            CHECK.due("7 none", x.put(w[0], w[1], 0), w[2]);
            CHECK.due("7 it has none", x.lies(w[0], 3 + w[1]), 0);
        }
        WHOLE.stays("7 as many as it has", 1, x -> x.put(0, 0, 1));
    }

    private static void putJustAll() {
        PencilLine x = Check.on(SMALL + "sort heat gives 1 tons 1 many 20;sort heat gives 1 tons 1 many 0;"
                + "sort heat gives 1 tons 1 many 8;");
        for (int heap = 0; heap < 8; heap++) {
            x.heap(heap, 0, 0);
        }
        CHECK.due("7 21 of 20", x.put(5, 0, 21), -3);
        CHECK.due("7 20 of 20", x.put(5, 0, 20), 0);
        CHECK.due("7 one more elsewhere", x.put(4, 0, 1), -3);
        CHECK.due("7 none elsewhere", x.put(4, 0, 0), 0);
        CHECK.due("7 1 of 0", x.put(0, 1, 1), -3);
        CHECK.due("7 0 of 0", x.put(0, 1, 0), 0);
        for (int heap = 0; heap < 8; heap++) {
            CHECK.due("7 one in each", x.put(heap, 2, 1), 7 - heap);
        }
        for (int heap = 0; heap < 8; heap++) {
            CHECK.due("7 two in heap " + heap, x.put(heap, 2, 2), -3);
            CHECK.due("7 it has one still", x.lies(heap, 5), 1);
        }
        CHECK.due("7 a heap goes off", x.heap(3, -1, 0), 1);
        CHECK.due("7 then there is one more", x.put(0, 2, 2), 0);
        CHECK.due("7 not two", x.put(0, 2, 3), -3);
    }

    // ---- 8 sleep ----

    private static void sleepRefused() {
        int[][] wrong = {{-1, 0, 0, 0}, {4, 0, 0, 0}, {LEAST, 0, 0, 0}, {MOST, 0, 0, 0}, {0, -1, 0, 0}, {0, 6, 0, 0},
            {0, 0, -1, 0}, {0, 0, 4, 0}, {0, 0, 0, -1}, {0, 0, 0, 29}, {3, 5, 3, 29}, {3, 5, 3, LEAST}, {3, 5, 3, MOST},
            {0, 6, 0, 28}, {4, 0, 0, 28}, {0, LEAST, 0, 1}, {0, 0, MOST, 1}};
        for (int[] w : wrong) {
            WHOLE.stays("8 sleep(" + w[0] + ", " + w[1] + ", " + w[2] + ", " + w[3] + ")", -2,
                    x -> x.sleep(w[0], w[1], w[2], w[3]));
        }
        WHOLE.staysNew("8 sleep", -2, x -> x.sleep(0, 0, 0, 0));
    }

    /** Of nine people 4, 2, 1 and 1 sleep. */
    private static void sleepTooMany() {
        int[][] tooMany = {{0, 6}, {1, 4}, {2, 3}, {3, 3}, {0, 28}, {3, 28}};
        int[] has = {4, 2, 1, 1};
        for (int[] w : tooMany) {
            WHOLE.stays("8 sleep(" + w[0] + ", 3, 1, " + w[1] + ")", -3, x -> x.sleep(w[0], 3, 1, w[1]));
        }
        for (int group = 0; group < 4; group++) {
            PencilLine x = Whole.lived();
            CHECK.due("8 all nine", x.sleep(group, 3, 1, has[group] + 1), 9);
            CHECK.due("8 ten", x.sleep(group, 0, 0, has[group] + 2), -3);
            CHECK.due("8 where it slept", x.minutes(0, 7, 0, group), 20 * 4 * 2);
            CHECK.due("8 eight", x.sleep(group, 3, 1, has[group]), 8);
            CHECK.due("8 none of it", x.sleep(group, 5, 3, 0), 8 - has[group]);
            CHECK.due("8 there it would", x.minutes(0, 7, 0, group), 0);
        }
    }

    private static void sleepJustAll() {
        PencilLine x = Check.on("floe wide 12 deep 12 people 28 days 1;");
        CHECK.due("8 all sleep at first", x.count(12), 28);
        CHECK.due("8 28 of 28", x.sleep(0, 11, 11, 28), 28);
        CHECK.due("8 none more", x.sleep(1, 0, 0, 0), 28);
        CHECK.due("8 one more", x.sleep(1, 0, 0, 1), -3);
        CHECK.due("8 29", x.sleep(0, 0, 0, 29), -2);
        CHECK.due("8 no column 12", x.sleep(0, 12, 11, 1), -2);
        CHECK.due("8 no row 12", x.sleep(0, 11, 12, 1), -2);
        CHECK.due("8 28 still", x.count(12), 28);
        CHECK.due("8 27", x.sleep(0, 0, 0, 27), 27);
        CHECK.due("8 the last", x.sleep(3, 0, 0, 1), 28);
        PencilLine y = Check.on(SMALL);
        CHECK.due("8 two of one", y.sleep(0, 0, 0, 2), -3);
        CHECK.due("8 one of one", y.sleep(0, 1, 1, 1), 1);
        CHECK.due("8 0 of it", y.sleep(0, 1, 1, 0), 0);
    }

    // ---- 9 open ----

    private static void openSets() {
        for (int set : new int[] {-1, 8, 9, LEAST, MOST}) {
            WHOLE.stays("9 open(" + set + ")", -2, x -> x.open(set));
        }
        for (int cracks = 0; cracks <= 7; cracks++) {
            PencilLine x = Check.on(SMALL + ("crack down 1" + CRACK).repeat(cracks));
            int sets = 1 << cracks;
            CHECK.due("9 none are open at first", x.open(sets - 1), 0);
            CHECK.due("9 all of " + cracks, x.count(8), sets - 1);
            CHECK.due("9 one beyond", x.open(sets), -2);
            CHECK.due("9 below", x.open(-1), -2);
            CHECK.due("9 those that were", x.open(0), sets - 1);
            CHECK.due("9 the empty set", x.open(0), 0);
        }
    }

    // ---- 10 lies ----

    private static void liesOfWhat() {
        int[] due = {1, 1, 34, 1, 2};
        for (int what = 0; what < due.length; what++) {
            int asked = what;
            WHOLE.stays("10 lies(0, " + what + ")", due[what], x -> x.lies(0, asked));
        }
        int[][] wrong = {{0, -1}, {0, 5}, {0, 8}, {0, LEAST}, {0, MOST}, {-1, 0}, {8, 0}, {LEAST, 0}, {MOST, 2}, {8, 5}};
        for (int[] w : wrong) {
            WHOLE.stays("10 lies(" + w[0] + ", " + w[1] + ")", -2, x -> x.lies(w[0], w[1]));
        }
        PencilLine x = Check.on(SMALL + "sort heat gives 1 tons 3 many 2;".repeat(6));
        x.heap(7, 1, 0);
        x.put(7, 5, 2);
        CHECK.due("10 the sixth sort", x.lies(7, 8), 2);
        CHECK.due("10 a seventh", x.lies(7, 9), -2);
        CHECK.due("10 tons", x.lies(7, 2), 6);
    }

    private static void liesNone() {
        for (int what = 0; what < 5; what++) {
            int asked = what;
            WHOLE.stays("10 lies(1, " + what + "), no such heap now", -1, x -> x.lies(1, asked));
        }
        WHOLE.stays("10 -2 ahead of NONE: no such sort", -2, x -> x.lies(1, 5));
        WHOLE.stays("10 -2 ahead of NONE: below 0", -2, x -> x.lies(1, -1));
        PencilLine x = Check.on(SMALL);
        CHECK.due("10 -2 ahead of NONE: no sort at all", x.lies(0, 3), -2);
        CHECK.due("10 no heap at first", x.lies(0, 2), -1);
    }

    // ---- 11 near, 12 odds ----

    private static void nearCracks() {
        for (int crack : new int[] {-1, 3, 7, LEAST, MOST}) {
            WHOLE.stays("11 near(" + crack + ")", -2, x -> x.near(crack));
            WHOLE.stays("12 odds(" + crack + ")", -2, x -> x.odds(crack));
            WHOLE.stays("47 seam(" + crack + ")", -2, x -> x.seam(crack));
        }
        // none by down 3; heaps 0 and 3 by along 2; heaps 3 and 7 by down 5
        int[] tons = {0, 34 + 40, 40 + 7};
        for (int crack = 0; crack < 3; crack++) {
            int asked = crack;
            WHOLE.stays("11 near(" + crack + ")", tons[crack], x -> x.near(asked));
        }
        PencilLine seven = Check.on(SMALL + ("crack down 1" + CRACK).repeat(7));
        CHECK.due("11 the seventh", seven.near(6), 0);
        CHECK.due("11 an eighth", seven.near(7), -2);
        CHECK.due("12 the seventh", seven.odds(6), 0);
        CHECK.due("12 an eighth", seven.odds(7), -2);
    }

    /** Only the two columns (rows) beside it count, at the floe's edges too. */
    private static void nearCells() {
        for (int at : new int[] {1, 6, 11}) {
            PencilLine x = Check.on("floe wide 12 deep 12 people 1 days 1;crack down " + at + CRACK
                    + "crack along " + at + CRACK + "sort heat gives 1 tons 7 many 1;");
            for (int side = 0; side < 12; side++) {
                int due = side == at - 1 || side == at ? 7 : 0;
                x.heap(0, side, 0);
                x.put(0, 0, 1);
                CHECK.due("11 down " + at + ", column " + side, x.near(0), due);
                x.heap(0, 0, side);
                CHECK.due("11 along " + at + ", row " + side, x.near(1), due);
            }
        }
        PencilLine all = Check.on(SMALL + "crack down 1" + CRACK + "sort heat gives 1 tons 99 many 8;");
        for (int heap = 0; heap < 8; heap++) {
            all.heap(heap, heap % 2, heap / 4);
            CHECK.due("11 a heap with nothing", all.near(0), 99 * heap);
            all.put(heap, 0, 1);
        }
        CHECK.due("11 all eight", all.near(0), 792);
        all.heap(7, -1, 0);
        CHECK.due("11 one off", all.near(0), 693);
    }

    private static void oddsCracks() {
        // 100 + 15 + 20, 2 (50 + 3 + 4 + 7), 30 + 42
        int[] due = {135, 128, 72};
        for (int crack = 0; crack < 3; crack++) {
            int asked = crack;
            WHOLE.stays("12 odds(" + crack + ")", due[crack], x -> x.odds(asked));
        }
    }

    /** Weight times tons by 100 is cut, ahead of the doubling by an old seam. */
    private static void oddsCut() {
        PencilLine x = Check.on(SMALL + "crack down 1 odds 0 swell 0 warm 0 weight 99;"
                + "crack down 1 odds 0 swell 0 warm 0 weight 99 old;crack down 1 odds 0 swell 0 warm 0 weight 1;"
                + "crack down 1 odds 0 swell 0 warm 0 weight 0 old;"
                + "sort heat gives 1 tons 1 many 20;sort heat gives 1 tons 20 many 20;");
        x.heap(0, 0, 0);
        int[][] due = {{0, 0, 0}, {1, 0, 0}, {2, 1, 0}, {99, 98, 0}, {100, 99, 1}, {101, 99, 1}, {102, 100, 1},
            {199, 197, 1}, {200, 198, 2}};
        for (int[] d : due) {
            x.put(0, 0, d[0] % 20);
            x.put(0, 1, d[0] / 20);
            CHECK.due("12 tons", x.near(0), d[0]);
            CHECK.due("12 99 times " + d[0], x.odds(0), d[1]);
            CHECK.due("12 old, 99 times " + d[0], x.odds(1), 2 * d[1]);
            CHECK.due("12 1 times " + d[0], x.odds(2), d[2]);
            CHECK.due("12 0 times " + d[0], x.odds(3), 0);
        }
    }

    private static void oddsAtMost() {
        // 2,282 without weight, 99 times 7,795, 7,796 and 7,797 tons by 100
        PencilLine x = Check.on(SMALL + "sea swell 9 warm 9;crack down 1 odds 500 swell 99 warm 99 weight 99;"
                + "sort heat gives 1 tons 99 many 20;".repeat(3)
                + "sort heat gives 1 tons 92 many 20;sort heat gives 1 tons 1 many 20;");
        x.heap(0, 0, 0);
        x.lay(0);
        int[][] due = {{15, 9999}, {16, 10000}, {17, 10000}, {20, 10000}};
        for (int[] d : due) {
            x.put(0, 4, d[0]);
            CHECK.due("12 tons", x.near(0), 7780 + d[0]);
            CHECK.due("12 10,000 at most", x.odds(0), d[1]);
        }
        // twice 500 and 50 times 8,998, 9,000 and 9,002 tons by 100
        PencilLine y = Check.on(SMALL + "crack down 1 odds 500 swell 0 warm 0 weight 50 old;"
                + "sort heat gives 1 tons 99 many 20;".repeat(4)
                + "sort heat gives 1 tons 53 many 20;sort heat gives 1 tons 2 many 20;");
        y.heap(0, 0, 0);
        y.lay(0);
        int[][] old = {{9, 9998}, {10, 10000}, {11, 10000}, {20, 10000}};
        for (int[] d : old) {
            y.put(0, 5, d[0]);
            CHECK.due("12 old, 10,000 at most", y.odds(0), d[1]);
        }
    }

    // ---- 13 piece, 14 pieces ----

    private static void pieceRefused() {
        int[][] wrong = {{-1, 0, 0}, {8, 0, 0}, {LEAST, 0, 0}, {MOST, 0, 0}, {0, -1, 0}, {0, 6, 0}, {0, 0, -1}, {0, 0, 4},
            {7, LEAST, 0}, {7, MOST, 0}, {7, 0, LEAST}, {7, 0, MOST}};
        for (int[] w : wrong) {
            WHOLE.stays("13 piece(" + w[0] + ", " + w[1] + ", " + w[2] + ")", -2, x -> x.piece(w[0], w[1], w[2]));
        }
        WHOLE.stays("13 the last set and cell", 10, x -> x.piece(7, 5, 3));
        WHOLE.stays("13 the first set and cell", 0, x -> x.piece(0, 0, 0));
    }

    private static void pieceCells() {
        for (int at : new int[] {1, 6, 11}) {
            PencilLine x = Check.on("floe wide 12 deep 12 people 1 days 1;crack down " + at + CRACK
                    + "crack along " + at + CRACK);
            for (int side = 0; side < 12; side++) {
                int beyond = side >= at ? 1 : 0;
                CHECK.due("13 down " + at + ", column " + side, x.piece(1, side, 11), beyond);
                CHECK.due("13 along " + at + ", row " + side, x.piece(2, 11, side), 8 * beyond);
                CHECK.due("13 both " + at, x.piece(3, side, side), 9 * beyond);
                CHECK.due("13 none open", x.piece(0, side, side), 0);
            }
        }
        PencilLine seven = Check.on(SMALL + ("crack down 1" + CRACK).repeat(7));
        CHECK.due("13 seven down", seven.piece(127, 1, 1), 7);
        CHECK.due("13 ahead of seven", seven.piece(127, 0, 1), 0);
        CHECK.due("13 set 128", seven.piece(128, 0, 0), -2);
        CHECK.due("13 no column 2", seven.piece(127, 2, 0), -2);
    }

    private static void piecesSets() {
        for (int set : new int[] {-1, 8, LEAST, MOST}) {
            WHOLE.stays("14 pieces(" + set + ")", -2, x -> x.pieces(set));
            WHOLE.stays("15 part(" + set + ")", -2, x -> x.part(set));
            WHOLE.stays("17 enough(" + set + ")", -2, x -> x.enough(set));
            WHOLE.stays("18 lacks(" + set + ", 0)", -2, x -> x.lacks(set, 0));
        }
        int[] due = {1, 2, 2, 4, 2, 3, 4, 6};
        for (int set = 0; set < 8; set++) {
            int asked = set;
            WHOLE.stays("14 pieces(" + set + ")", due[set], x -> x.pieces(asked));
        }
        PencilLine one = Check.on(SMALL);
        CHECK.due("14 no cracks", one.pieces(0), 1);
        CHECK.due("14 no such set", one.pieces(1), -2);
        PencilLine most = Check.on("floe wide 12 deep 12 people 1 days 1;crack down 1" + CRACK + "crack down 11" + CRACK
                + "crack down 6" + CRACK + "crack along 1" + CRACK + "crack along 11" + CRACK + "crack along 6" + CRACK
                + "crack along 6" + CRACK);
        CHECK.due("14 four by four", most.pieces(63), 16);
        CHECK.due("14 two at one place", most.pieces(127), 16);
        CHECK.due("14 set 128", most.pieces(128), -2);
        PencilLine row = Check.on("floe wide 12 deep 2 people 1 days 1;crack down 1" + CRACK + "crack down 2" + CRACK
                + "crack down 3" + CRACK + "crack down 4" + CRACK + "crack down 5" + CRACK + "crack down 6" + CRACK
                + "crack down 7" + CRACK);
        CHECK.due("14 eight in a row", row.pieces(127), 8);
    }

    // ---- 15 part, 16 with ----

    private static void partSets() {
        PencilLine x = Check.on(SMALL);
        CHECK.due("15 no cracks", x.part(0), ALL);
        CHECK.due("15 no set", x.part(1), -2);
        PencilLine y = Check.on(SMALL + "crack down 1 odds 500 swell 0 warm 0 weight 0;");
        CHECK.due("15 it opens", y.part(1), ALL / 20);
        CHECK.due("15 it does not", y.part(0), ALL - ALL / 20);
        CHECK.due("15 no set 2", y.part(2), -2);
        y.open(1);
        CHECK.due("15 shuts 0: it stays", y.part(1), ALL);
        CHECK.due("15 shuts 0: never shut", y.part(0), 0);
        PencilLine seven = Check.on(SMALL + ("crack down 1" + CRACK).repeat(7));
        seven.open(127);
        CHECK.due("15 set 127", seven.part(127), ALL);
        CHECK.due("15 set 128", seven.part(128), -2);
    }

    /** Cut by each set and crack; what is left over stays. */
    private static void partCut() {
        PencilLine x = Check.on(SMALL + "crack down 1 odds 3 swell 0 warm 0 weight 0;".repeat(4) + "shuts 33;");
        // three of 10,000: 3 10^8, 9 10^4, 27 and then 27 times 3 by 10,000: none
        CHECK.due("15 one", x.part(1), 300000000L - 3 * 90000L + 3 * 27L);
        CHECK.due("15 all four", x.part(15), 0);
        CHECK.due("15 the first three: left over, it stays", x.part(7), 27);
        // the last three: 3 of 10,000 of 10^12 less 3 10^8 open each time, then cut
        long left = ALL - 300000000L;
        long second = left * 3 / 10000;
        long third = second * 3 / 10000;
        CHECK.due("15 the last three", x.part(14), third * 3 / 10000);
        x.open(1);
        long shut = ALL * 33 / 100;
        CHECK.due("15 shut, and none opens", x.part(0), leftOf(leftOf(leftOf(shut))));
        PencilLine y = Check.on(SMALL + ("crack down 1" + CRACK).repeat(7) + "shuts 1;");
        y.open(127);
        // a hundredth seven times of 10^12: the seventh is cut
        CHECK.due("15 six shut, one is left", y.part(64), 1);
        CHECK.due("15 all seven shut", y.part(0), 0);
    }

    private static long leftOf(long parts) {
        return parts - parts * 3 / 10000;
    }

    /** ODDS of 10,000 open all, shuts 100 shut all, both 0 nothing. */
    private static void partWhole() {
        PencilLine x = Check.on(SMALL + "crack down 1 odds 500 swell 0 warm 0 weight 99;shuts 100;"
                + "sort heat gives 1 tons 99 many 20;".repeat(5));
        x.heap(0, 1, 1);
        x.lay(0);
        CHECK.due("15 odds", x.odds(0), 10000);
        CHECK.due("15 all open", x.part(1), ALL);
        CHECK.due("15 none left", x.part(0), 0);
        x.open(1);
        CHECK.due("15 all shut, none at once open again", x.part(0), ALL);
        CHECK.due("15 none open", x.part(1), 0);
        // shut by one crack, opened by the next within one hour
        PencilLine y = Check.on(SMALL + ("crack down 1" + CRACK).repeat(2) + "shuts 100;");
        y.open(1);
        CHECK.due("15 the first shuts", y.part(0), ALL);
        y.open(3);
        CHECK.due("15 both shut", y.part(0), ALL);
    }

    private static void withNumbers() {
        for (int n : new int[] {-1, 4, 8, LEAST, MOST}) {
            WHOLE.stays("16 with(" + n + ", false)", -2, x -> x.with(n, false));
            WHOLE.stays("16 with(" + n + ", true)", -2, x -> x.with(n, true));
        }
        PencilLine x = Whole.lived();
        long all = 0;
        for (int n = 0; n <= 3; n++) {
            all += x.with(n, false);
            CHECK.holds("16 those lost are of them", x.with(n, true) <= x.with(n, false) && x.with(n, true) >= 0);
        }
        CHECK.due("16 0 to all together", all, ALL);
        PencilLine none = Check.on(SMALL + "sort heat gives 1 tons 1 many 1;");
        CHECK.due("16 no cracks, 0", none.with(0, false), ALL);
        CHECK.due("16 no cracks, 0 lost", none.with(0, true), ALL);
        CHECK.due("16 no cracks, 1", none.with(1, false), -2);
        none.sleep(0, 0, 0, 0);
        CHECK.due("16 nobody sleeps", none.with(0, true), 0);
        PencilLine seven = Check.on(SMALL + ("crack down 1" + CRACK).repeat(7));
        seven.open(127);
        CHECK.due("16 all seven", seven.with(7, false), ALL);
        CHECK.due("16 six", seven.with(6, false), 0);
        CHECK.due("16 eight", seven.with(8, false), -2);
    }

    // ---- 17 enough, 18 lacks ----

    private static void enoughSets() {
        for (int set = 0; set < 8; set++) {
            int asked = set;
            WHOLE.asks("17 enough(" + set + ")", x -> x.enough(asked));
        }
        PencilLine seven = Check.on(SMALL + ("crack down 1" + CRACK).repeat(7));
        CHECK.due("17 set 127", seven.enough(127), 1);
        CHECK.due("17 set 128", seven.enough(128), -2);
        PencilLine none = Check.on(SMALL);
        CHECK.due("17 no cracks", none.enough(0), 1);
        CHECK.due("17 no set 1", none.enough(1), -2);
    }

    /** Just what is needed, and one less, of each kind: food for people times days, others for people. */
    private static void enoughJust() {
        String[] kinds = {"food", "beds", "seats", "heat"};
        int[][] camps = {{1, 1}, {3, 7}, {28, 60}, {28, 1}, {1, 60}};
        for (int kind = 0; kind < 4; kind++) {
            for (int[] camp : camps) {
                int need = kind == 0 ? camp[0] * camp[1] : camp[0];
                for (int less = 0; less < 2; less++) {
                    int gives = need - less;
                    String text = "floe wide 2 deep 2 people " + camp[0] + " days " + camp[1] + ";"
                            + "sort " + kinds[kind] + " gives 99 tons 1 many " + gives / 99 + ";"
                            + "sort " + kinds[kind] + " gives " + Math.max(1, gives % 99) + " tons 1 many "
                            + (gives % 99 == 0 ? 0 : 1) + ";";
                    PencilLine x = Check.on(text);
                    x.heap(0, 1, 1);
                    x.lay(0);
                    CHECK.due("17 " + gives + " of " + need + " " + kinds[kind], x.enough(0), 1 - less);
                    CHECK.due("18 " + gives + " of " + need + " " + kinds[kind], x.lacks(0, kind), less);
                    CHECK.due("18 another kind is not told", x.lacks(0, (kind + 1) % 4), 0);
                    x.sleep(0, 0, 0, camp[0] - 1);
                    CHECK.due("17 for one less", x.enough(0), 1);
                    x.sleep(0, 0, 0, 0);
                    x.heap(0, -1, 0);
                    CHECK.due("17 nothing for nobody", x.enough(0), 1);
                    CHECK.due("18 nothing for nobody", x.lacks(0, kind), 0);
                }
            }
        }
    }

    private static void lacksRefused() {
        int[][] wrong = {{0, -1}, {0, 4}, {7, -1}, {7, 4}, {0, LEAST}, {0, MOST}, {-1, 3}, {8, 3}, {8, 4}};
        for (int[] w : wrong) {
            WHOLE.stays("18 lacks(" + w[0] + ", " + w[1] + ")", -2, x -> x.lacks(w[0], w[1]));
        }
        for (int kind = 0; kind < 4; kind++) {
            int asked = kind;
            WHOLE.asks("18 lacks(7, " + kind + ")", x -> x.lacks(7, asked));
        }
        WHOLE.stays("18 beds are not told", 0, x -> x.lacks(7, 1));
        WHOLE.stays("18 heat is not told", 0, x -> x.lacks(7, 3));
    }

    /** What is too much on one piece fills no lack on another; groups on one piece eat together. */
    private static void lacksJust() {
        PencilLine x = Check.on("floe wide 2 deep 2 people 6 days 1;crack down 1" + CRACK + "crack along 1" + CRACK
                + "sort heat gives 1 tons 1 many 20;sort beds gives 1 tons 1 many 0;");
        x.heap(0, 0, 0);
        x.heap(1, 0, 1);
        x.sleep(0, 0, 0, 2);
        x.sleep(1, 1, 1, 1);
        x.sleep(2, 1, 1, 2);
        x.sleep(3, 0, 1, 1);
        x.put(0, 0, 9);
        CHECK.due("18 enough for all on one piece", x.lacks(0, 0) + x.lacks(0, 3), 0);
        CHECK.due("18 two groups on one piece", x.lacks(3, 3), 4);
        CHECK.due("18 by down alone", x.lacks(1, 3), 3);
        CHECK.due("18 by along alone", x.lacks(2, 3), 4);
        x.put(1, 0, 1);
        CHECK.due("18 just enough for one", x.lacks(3, 3), 3);
        CHECK.due("18 told, none of it, in three pieces", x.lacks(3, 1), 6);
        CHECK.due("18 told, none of it, in one", x.lacks(0, 1), 6);
        CHECK.due("17 not enough", x.enough(0), 0);
        // groups without people neither lack for themselves nor stand for those who sleep beside them
        PencilLine y = Check.on("floe wide 2 deep 2 people 4 days 1;crack down 1" + CRACK
                + "sort heat gives 1 tons 1 many 9;");
        y.sleep(0, 0, 0, 0);
        y.sleep(1, 0, 1, 2);
        y.sleep(2, 1, 0, 0);
        CHECK.due("18 two beside a group without people", y.lacks(0, 3), 2);
        CHECK.due("18 a piece where a group without people is", y.lacks(1, 3), 2);
        y.sleep(3, 1, 1, 1);
        CHECK.due("18 one more on the other piece", y.lacks(1, 3), 3);
        CHECK.due("18 three on one", y.lacks(0, 3), 3);
        y.heap(0, 1, 1);
        y.put(0, 0, 9);
        CHECK.due("18 what lies beyond helps not", y.lacks(1, 3), 2);
        CHECK.due("17 nor is it enough", y.enough(1), 0);
        y.sleep(1, 0, 1, 0);
        CHECK.due("17 it is where nobody sleeps", y.enough(1), 1);
    }

    // ---- 41 thin, 42 apart ----

    private static void thinNumbers() {
        int[][] wrong = {{-1, 0}, {3, 0}, {LEAST, 0}, {MOST, 0}, {0, -1}, {0, 10001}, {0, LEAST}, {0, MOST}, {3, 10001}};
        for (int[] w : wrong) {
            WHOLE.stays("41 thin(" + w[0] + ", " + w[1] + ")", -2, x -> x.thin(w[0], w[1]));
        }
        WHOLE.stays("41 n 10,000", 0, x -> x.thin(1, 10000));
        WHOLE.stays("41 n 0 does not do", -1, x -> x.thin(1, 0));
    }

    private static void thinJust() {
        // odds 72: 30 and 90 times 47 tons by 100, cut
        int[][] due = {{2, 72, 0}, {2, 71, 1}, {2, 70, 2}, {2, 30, 46}, {2, 29, -1}, {1, 128, 0}, {1, 127, 5}, {1, 126, 5},
            {1, 125, 15}, {1, 114, 65}, {1, 113, -1}, {0, 135, 0}, {0, 134, -1}};
        for (int[] d : due) {
            WHOLE.stays("41 thin(" + d[0] + ", " + d[1] + ")", d[2], x -> x.thin(d[0], d[1]));
        }
        PencilLine none = Check.on(SMALL + "crack down 1" + CRACK);
        CHECK.due("41 odds 0, n 0", none.thin(0, 0), 0);
        PencilLine most = Check.on(SMALL + "crack down 1 odds 0 swell 0 warm 0 weight 99;"
                + "sort heat gives 1 tons 99 many 20;".repeat(6));
        most.heap(0, 0, 0);
        most.lay(0);
        CHECK.due("41 all of 11,880 tons but one", most.thin(0, 0), 11879);
        CHECK.due("41 10,000 are the most", most.thin(0, 10000), 0);
        // 99 times 10,101 by 100 is 9,999 and a rest
        CHECK.due("41 9,999", most.thin(0, 9999), 11880 - 10101);
    }

    private static void apartCells() {
        int[][] wrong = {{-1, 0}, {6, 0}, {0, -1}, {0, 4}, {LEAST, 0}, {MOST, 0}, {0, LEAST}, {0, MOST}};
        for (int[] w : wrong) {
            WHOLE.stays("42 apart(" + w[0] + ", " + w[1] + ")", -2, x -> x.apart(w[0], w[1]));
        }
        int[][] due = {{0, 0, 1}, {0, 1, 0}, {0, 2, 0}, {0, 3, 1}, {1, 0, 1}, {2, 0, 0}, {3, 3, 0}, {4, 0, 0}, {5, 3, 0}};
        for (int[] d : due) {
            WHOLE.stays("42 apart(" + d[0] + ", " + d[1] + ")", d[2], x -> x.apart(d[0], d[1]));
        }
        for (int at : new int[] {1, 6, 11}) {
            PencilLine x = Check.on("floe wide 12 deep 2 people 1 days 1;crack down " + at + CRACK);
            PencilLine y = Check.on("floe wide 2 deep 12 people 1 days 1;crack along " + at + CRACK);
            for (int side = 0; side < 12; side++) {
                int between = side < at ? at - 1 - side : side - at;
                CHECK.due("42 down " + at + ", column " + side, x.apart(side, 1), between);
                CHECK.due("42 along " + at + ", row " + side, y.apart(1, side), between);
            }
        }
    }

    private static void apartNone() {
        PencilLine x = Check.on(SMALL);
        CHECK.due("42 no crack", x.apart(0, 0), -1);
        CHECK.due("42 no crack, the last cell", x.apart(1, 1), -1);
        CHECK.due("42 -2 ahead of NONE: column 2", x.apart(2, 0), -2);
        CHECK.due("42 -2 ahead of NONE: row 2", x.apart(0, 2), -2);
        CHECK.due("42 -2 ahead of NONE: below", x.apart(-1, 0), -2);
    }
}
