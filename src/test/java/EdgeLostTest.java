/** The boundaries of promises 19 to 30: what is lost, layings, moves, beds and watches. */
public final class EdgeLostTest {
    private static final long ALL = 1000000000000L;
    private static final int LEAST = Integer.MIN_VALUE;
    private static final int MOST = Integer.MAX_VALUE;
    private static final String SMALL = "floe wide 2 deep 2 people 1 days 1;";
    private static final Check CHECK = new Check("EdgeLostTest");
    private static final Whole WHOLE = new Whole(CHECK);

    public static void main(String[] args) {
        lostHours();
        lostJust();
        safeRefused();
        safeJust();
        safeLastHour();
        safeOnePart();
        safeOnePartMore();
        judgeRefused();
        judgeRows();
        layRefused();
        layNoHeap();
        layRounds();
        laySeats();
        laySeatsNone();
        layMany();
        triesChangeNothing();
        bestOfSeveral();
        trialsOfAllEight();
        bettersRefused();
        bettersAtMost();
        bettersNone();
        bettersFirst();
        bettersByRows();
        bettersWithinTheFloe();
        gapOfFive();
        heapsNumbers();
        heapsByLayingOne();
        whereGroups();
        whereFirst();
        whereByRows();
        whereInAnHour();
        watchNumbers();
        watchCut();
        watchesNumbers();
        watchesJust();
        CHECK.finish();
    }

    /** A crack that opens by a tenth each hour, one on each side of it, all heat on one. */
    private static PencilLine tenth() {
        PencilLine x = Check.on("floe wide 2 deep 2 people 2 days 1;crack down 1 odds 500 swell 0 warm 0 weight 0 old;"
                + "sort heat gives 2 tons 1 many 1;");
        x.sleep(0, 0, 0, 1);
        x.sleep(1, 1, 0, 1);
        x.heap(0, 0, 0);
        x.put(0, 0, 1);
        return x;
    }

    // ---- 19 lost, 20 safe ----

    private static void lostHours() {
        for (int n : new int[] {0, -1, 49, 50, LEAST, MOST}) {
            WHOLE.stays("19 lost(" + n + ")", -2, x -> x.lost(n));
        }
        WHOLE.asks("19 lost(1)", x -> x.lost(1));
        WHOLE.asks("19 lost(48)", x -> x.lost(48));
        PencilLine x = tenth();
        long left = ALL;
        for (int n = 1; n <= 48; n++) {
            left -= left / 10;
            CHECK.due("19 " + n + " hours", x.lost(n), ALL - left);
        }
        CHECK.due("19 the 49th", x.lost(49), -2);
    }

    private static void lostJust() {
        PencilLine x = tenth();
        x.open(1);
        CHECK.due("19 open, shuts 0", x.lost(1), ALL);
        CHECK.due("19 lost once only", x.lost(48), ALL);
        x.open(0);
        x.put(0, 0, 0);
        CHECK.due("19 never enough", x.lost(1), ALL);
        CHECK.due("19 never enough, once only", x.lost(2), ALL);
        x.sleep(0, 0, 0, 0);
        x.sleep(1, 0, 0, 0);
        CHECK.due("19 nobody sleeps", x.lost(48), 0);
        PencilLine none = Check.on(SMALL);
        CHECK.due("19 no cracks, nothing told", none.lost(48), 0);
    }

    private static void safeRefused() {
        for (int n : new int[] {-1, 1001, LEAST, MOST}) {
            WHOLE.stays("20 safe(" + n + ")", -2, x -> x.safe(n));
        }
        WHOLE.asks("20 safe(0)", x -> x.safe(0));
        WHOLE.stays("20 safe(1000)", 48, x -> x.safe(1000));
    }

    private static void safeJust() {
        PencilLine x = tenth();
        int[][] due = {{0, 0}, {99, 0}, {100, 1}, {189, 1}, {190, 2}, {270, 2}, {271, 3}, {343, 3}, {344, 4}, {1000, 48}};
        for (int[] d : due) {
            CHECK.due("20 safe(" + d[0] + ")", x.safe(d[0]), d[1]);
        }
        x.put(0, 0, 0);
        CHECK.due("20 all lost in the first hour, 999", x.safe(999), 0);
        CHECK.due("20 all lost in the first hour, 1,000", x.safe(1000), 48);
        x.sleep(0, 0, 0, 0);
        x.sleep(1, 0, 0, 0);
        CHECK.due("20 nothing is lost", x.safe(0), 48);
    }

    /** No more than 48 hours, and the 48th counts. */
    private static void safeLastHour() {
        PencilLine x = tenth();
        long behind47 = x.lost(47);
        long behind48 = x.lost(48);
        int thousandths = (int) (behind48 / 1000000000L);
        CHECK.holds("20 they lie apart", behind47 <= thousandths * 1000000000L);
        CHECK.due("20 47 hours", x.safe(thousandths), 47);
        CHECK.due("20 48 hours", x.safe(thousandths + 1), 48);
    }

    /** Only where all three cracks are open is one without a heap: one part of 10^12. */
    private static void safeOnePart() {
        PencilLine x = Check.on("floe wide 3 deep 3 people 1 days 1;crack down 1 odds 1 swell 0 warm 0 weight 0;"
                + "crack down 2 odds 1 swell 0 warm 0 weight 0;crack along 2 odds 1 swell 0 warm 0 weight 0;"
                + "shuts 100;sort heat gives 1 tons 1 many 3;");
        x.sleep(0, 1, 1, 1);
        x.heap(0, 0, 1);
        x.heap(1, 2, 1);
        x.heap(2, 1, 2);
        x.lay(1);
        CHECK.due("17 all but the set of all three", x.enough(0) + x.enough(3) + x.enough(5) + x.enough(6), 4);
        CHECK.due("17 the set of all three", x.enough(7), 0);
        CHECK.due("16 one part", x.with(3, true), 1);
        CHECK.due("19 one part", x.lost(1), 1);
        CHECK.due("20 one part is more than 0", x.safe(0), 0);
        CHECK.due("20 one part is less than 1 of 1,000", x.safe(1), 48);
    }

    /** A tenth is cut off at 3; of what is left one part of 10^12 has all the other three open. */
    private static void safeOnePartMore() {
        PencilLine x = Check.on("floe wide 4 deep 3 people 2 days 1;crack down 3 odds 500 swell 0 warm 0 weight 0 old;"
                + "crack down 1 odds 2 swell 0 warm 0 weight 0;crack down 2 odds 1 swell 0 warm 0 weight 0;"
                + "crack along 2 odds 1 swell 0 warm 0 weight 0;sort heat gives 2 tons 1 many 3;");
        x.sleep(0, 1, 1, 1);
        x.sleep(1, 3, 1, 1);
        x.heap(0, 0, 1);
        x.heap(1, 2, 1);
        x.heap(2, 1, 2);
        x.lay(1);
        CHECK.due("19 one part more than a tenth", x.lost(1), ALL / 10 + 1);
        CHECK.due("20 that is more than 100", x.safe(100), 0);
        CHECK.due("20 and less than 101", x.safe(101), 1);
    }

    // ---- 21 judge ----

    private static void judgeRefused() {
        for (int slot : new int[] {-1, 4, LEAST, MOST}) {
            WHOLE.stays("21 judge(" + slot + ")", -2, x -> x.judge(slot));
        }
        WHOLE.stays("21 slot 2 has nothing", -6, x -> x.judge(2));
        WHOLE.stays("21 slot 0 has -1 at 1", 1, x -> x.judge(0));
        PencilLine x = new PencilLine();
        CHECK.due("21 no floe, the slot has nothing", x.judge(0), -2);
        x.row(0, 0, 3);
        CHECK.due("21 no floe, the slot has a row", x.judge(0), -2);
        CHECK.due("21 no floe, no slot", x.judge(4), -2);
    }

    private static void judgeRows() {
        PencilLine x = Check.on(SMALL + "crack down 1 odds 0 swell 0 warm 0 weight 0;".repeat(3)
                + "sort heat gives 1 tons 1 many 1;");
        x.heap(0, 1, 0);
        x.put(0, 0, 1);
        x.row(0, 3, 60);
        CHECK.due("21 60 numbers", x.judge(0), 60);
        long[] bad = {1, 7, 8, -1, Long.MIN_VALUE, Long.MAX_VALUE, 1L << 32, 1L << 63 | 1};
        for (long b : bad) {
            x.write(0, 59, b);
            CHECK.due("21 the last is " + b, x.judge(0), 59);
            x.write(0, 0, b);
            CHECK.due("21 the first is " + b, x.judge(0), 0);
            x.write(0, 0, 0);
            x.write(0, 59, 0);
        }
        x.sleep(0, 1, 0, 1);
        x.write(0, 5, 7);
        CHECK.due("21 the last set", x.judge(0), 60);
        x.write(0, 5, 8);
        CHECK.due("21 one beyond", x.judge(0), 5);
        x.row(1, 0, 1);
        CHECK.due("21 one number", x.judge(1), 1);
        x.row(1, 0, 0);
        CHECK.due("21 no numbers", x.judge(1), 0);
        x.put(0, 0, 0);
        CHECK.due("21 not enough at once", x.judge(0), 0);
        CHECK.due("21 no numbers, none not enough", x.judge(1), 0);
    }

    // ---- 22 lay ----

    private static void layRefused() {
        for (int laying : new int[] {-1, 4, LEAST, MOST}) {
            WHOLE.stays("22 lay(" + laying + ")", -2, x -> x.lay(laying));
            WHOLE.stays("23 trial(" + laying + ")", -2, x -> x.trial(laying));
        }
        for (int laying = 0; laying < 4; laying++) {
            int asked = laying;
            WHOLE.staysNew("22 lay(" + laying + ")", -2, x -> x.lay(asked));
            WHOLE.staysNew("23 trial(" + laying + ")", -2, x -> x.trial(asked));
        }
    }

    private static void layNoHeap() {
        PencilLine x = Check.on(SMALL + "sort heat gives 1 tons 1 many 2;");
        for (int i = 0; i < 2; i++) {
            for (int laying = 0; laying < 4; laying++) {
                CHECK.due("22 no heap, lay(" + laying + ")", x.lay(laying), -5);
                CHECK.due("23 no heap, trial(" + laying + ")", x.trial(laying), -5);
            }
            for (int laying : new int[] {-1, 4, LEAST, MOST}) {
                CHECK.due("22 -2 ahead of -5, lay(" + laying + ")", x.lay(laying), -2);
                CHECK.due("23 -2 ahead of -5, trial(" + laying + ")", x.trial(laying), -2);
            }
            CHECK.due("24 no heap", x.best(), -5);
            CHECK.due("27 no heap", x.heaps(), -5);
            CHECK.due("22 still none", x.count(7), 0);
            x.heap(0, 0, 0);
            x.lay(0);
            x.heap(0, -1, 0);
        }
        PencilLine none = new PencilLine();
        CHECK.due("24 -2 ahead of -5: no floe", none.best(), -2);
        CHECK.due("27 -2 ahead of -5: no floe", none.heaps(), -2);
        CHECK.due("22 -2 ahead of -5: no floe", none.lay(0), -2);
    }

    private static void laid(String call, PencilLine x, int heap, int... units) {
        for (int sort = 0; sort < units.length; sort++) {
            CHECK.due("22 " + call + ", heap " + heap + ", sort " + sort, x.lies(heap, 3 + sort), units[sort]);
        }
    }

    /** Also what lay in a heap, or in none, is taken up; the round goes on, or begins anew by sorts. */
    private static void layRounds() {
        PencilLine x = Check.on(SMALL + "sort heat gives 1 tons 1 many 4;sort food gives 1 tons 1 many 0;"
                + "sort beds gives 1 tons 1 many 1;sort heat gives 1 tons 1 many 3;");
        x.heap(1, 0, 0);
        x.heap(4, 1, 0);
        x.heap(6, 1, 1);
        x.put(6, 3, 2);
        CHECK.due("22 lay(0)", x.lay(0), 1);
        laid("lay(0)", x, 1, 4, 0, 1, 3);
        laid("lay(0)", x, 4, 0, 0, 0, 0);
        laid("lay(0)", x, 6, 0, 0, 0, 0);
        CHECK.due("22 lay(1)", x.lay(1), 3);
        laid("lay(1)", x, 1, 2, 0, 0, 1);
        laid("lay(1)", x, 4, 1, 0, 1, 1);
        laid("lay(1)", x, 6, 1, 0, 0, 1);
        CHECK.due("22 lay(2)", x.lay(2), 3);
        laid("lay(2)", x, 1, 2, 0, 1, 1);
        laid("lay(2)", x, 4, 1, 0, 0, 1);
        laid("lay(2)", x, 6, 1, 0, 0, 1);
        CHECK.due("22 the same again", x.lay(2), 3);
        CHECK.due("22 no heap is new", x.count(7), 3);
        // one sort's units end at the last heap: the next sort begins at the first
        PencilLine y = Check.on(SMALL + "sort heat gives 1 tons 1 many 2;sort beds gives 1 tons 1 many 1;");
        y.heap(0, 0, 0);
        y.heap(7, 1, 0);
        CHECK.due("22 a wrap-around", y.lay(1), 2);
        laid("a wrap-around", y, 0, 1, 1);
        laid("a wrap-around", y, 7, 1, 0);
        // one heap is all the round
        y.heap(7, -1, 0);
        for (int laying = 0; laying < 4; laying++) {
            CHECK.due("22 one heap, lay(" + laying + ")", y.lay(laying), 1);
            laid("one heap", y, 0, 2, 1);
        }
    }

    private static void laySeats() {
        PencilLine x = Check.on(SMALL + "sort heat gives 1 tons 1 many 3;sort seats gives 1 tons 1 many 2;"
                + "sort beds gives 1 tons 1 many 2;sort seats gives 1 tons 1 many 2;");
        for (int heap = 0; heap < 3; heap++) {
            x.heap(heap, 0, 0);
        }
        // seats go on from sort to sort round all: 0 1, 2 0; then the others from the first on
        CHECK.due("22 lay(3)", x.lay(3), 3);
        laid("lay(3)", x, 0, 1, 1, 1, 1);
        laid("lay(3)", x, 1, 1, 1, 1, 0);
        laid("lay(3)", x, 2, 1, 0, 0, 1);
        // two of five have seats: the others go round these alone
        PencilLine y = Check.on(SMALL + "sort heat gives 1 tons 1 many 3;sort seats gives 1 tons 1 many 2;"
                + "sort beds gives 1 tons 1 many 2;");
        for (int heap = 3; heap < 8; heap++) {
            y.heap(heap, 0, 0);
        }
        CHECK.due("22 two have seats", y.lay(3), 2);
        laid("two have seats", y, 3, 2, 1, 1);
        laid("two have seats", y, 4, 1, 1, 1);
        laid("two have seats", y, 5, 0, 0, 0);
        laid("two have seats", y, 7, 0, 0, 0);
    }

    /** All heaps, if none has seats; also where seats are told, but there are none of them. */
    private static void laySeatsNone() {
        for (String seats : new String[] {"", "sort seats gives 9 tons 1 many 0;"}) {
            PencilLine x = Check.on(SMALL + "sort heat gives 1 tons 1 many 4;sort beds gives 1 tons 1 many 1;" + seats);
            for (int heap = 0; heap < 3; heap++) {
                x.heap(heap, 0, 0);
            }
            CHECK.due("22 none has seats", x.lay(3), 3);
            laid("none has seats", x, 0, 2, 0);
            laid("none has seats", x, 1, 1, 1);
            laid("none has seats", x, 2, 1, 0);
        }
        PencilLine nothing = Check.on(SMALL);
        nothing.heap(5, 1, 1);
        for (int laying = 0; laying < 4; laying++) {
            CHECK.due("22 nothing to lay", nothing.lay(laying), 0);
        }
    }

    private static void layMany() {
        PencilLine x = Check.on(SMALL + "sort heat gives 1 tons 1 many 20;".repeat(5) + "sort heat gives 1 tons 1 many 7;");
        for (int heap = 0; heap < 8; heap++) {
            x.heap(heap, 0, 0);
        }
        CHECK.due("22 all eight", x.lay(1), 8);
        int all = 0;
        for (int heap = 0; heap < 8; heap++) {
            all += x.lies(heap, 2);
            CHECK.due("22 107 units round eight", x.lies(heap, 2), heap < 3 ? 14 : 13);
        }
        CHECK.due("22 all units", all, 107);
        CHECK.due("22 sort by sort from the first", x.lay(2), 8);
        CHECK.due("22 20 round eight five times, and 7", x.lies(3, 2), 16);
        CHECK.due("22 the last", x.lies(7, 2), 10);
        CHECK.due("22 all to the first", x.lay(0), 1);
        CHECK.due("22 there", x.lies(0, 2), 107);
    }

    private static void triesChangeNothing() {
        for (int laying = 0; laying < 4; laying++) {
            int asked = laying;
            WHOLE.asks("23 trial(" + laying + ")", x -> x.trial(asked));
        }
        WHOLE.asks("24 best()", x -> x.best());
        WHOLE.asks("26 gap()", x -> x.gap());
        WHOLE.asks("27 heaps()", x -> x.heaps());
        for (int group = 0; group < 4; group++) {
            int asked = group;
            WHOLE.asks("28 where(" + group + ")", x -> x.where(asked));
        }
        WHOLE.asks("50 springs(1, 60, 99)", x -> x.springs(1, 60, 99));
        WHOLE.staysNew("26 gap()", -2, x -> x.gap());
        WHOLE.staysNew("24 best()", -2, x -> x.best());
    }

    // ---- 24 best ----

    private static void bestOfSeveral() {
        PencilLine x = Check.on(SMALL + "sort heat gives 1 tons 1 many 2;");
        x.heap(0, 0, 0);
        x.heap(1, 1, 1);
        CHECK.due("24 all are equal: the first", x.best(), 0);
        // one of heat on each side: all but laying 0 do, the first of these
        PencilLine y = Check.on("floe wide 2 deep 2 people 2 days 1;crack down 1 odds 9 swell 0 warm 0 weight 0;"
                + "sort heat gives 1 tons 1 many 2;");
        y.heap(0, 0, 0);
        y.heap(1, 1, 1);
        y.sleep(0, 0, 0, 1);
        y.sleep(1, 1, 0, 1);
        CHECK.due("24 1, 2 and 3 are equal: the first", y.best(), 1);
        CHECK.due("23 laying 0 loses", y.trial(0), 900000000L);
        for (int laying = 1; laying < 4; laying++) {
            CHECK.due("23 laying " + laying + " loses nothing", y.trial(laying), 0);
        }
        CHECK.due("24 nothing was laid", y.lies(0, 2) + y.lies(1, 2), 0);
    }

    /** The last of eight heaps alone lies beyond the crack, where one sleeps: layings that reach it do. */
    private static void trialsOfAllEight() {
        PencilLine x = Check.on("floe wide 2 deep 2 people 1 days 1;crack down 1 odds 9 swell 0 warm 0 weight 0;"
                + "sort heat gives 1 tons 1 many 8;sort seats gives 1 tons 1 many 8;");
        for (int heap = 0; heap < 8; heap++) {
            x.heap(heap, heap / 7, 0);
        }
        x.sleep(0, 1, 1, 1);
        CHECK.due("24 eight heaps", x.best(), 1);
        long[] due = {900000000L, 0, 0, 0};
        for (int laying = 0; laying < 4; laying++) {
            CHECK.due("23 eight heaps, laying " + laying, x.trial(laying), due[laying]);
            CHECK.due("22 eight heaps, laying " + laying, x.lay(laying), laying == 0 ? 1 : 8);
            CHECK.due("19 eight heaps, laying " + laying, x.lost(1), due[laying]);
        }
    }

    // ---- 25 betters, 26 gap ----

    /**
     * Seven heaps by a crack, food in each, each of which adds to its odds; who sleeps beyond it never
     * has both food and beds, so that each move away from it betters, and no move mends all.
     */
    private static PencilLine seven() {
        PencilLine x = Check.on("floe wide 12 deep 2 people 2 days 1;crack down 1 odds 0 swell 0 warm 0 weight 99;"
                + "sort food gives 99 tons 99 many 7;sort beds gives 2 tons 1 many 1;");
        x.sleep(0, 0, 0, 1);
        x.sleep(1, 11, 0, 1);
        for (int heap = 0; heap < 7; heap++) {
            x.heap(heap, 0, 1);
            x.put(heap, 0, 1);
        }
        x.heap(7, 11, 1);
        x.put(7, 1, 1);
        return x;
    }

    private static long oddsOf(int heaps) {
        return ALL / 10000 * (99 * 99 * heaps / 100);
    }

    private static void bettersRefused() {
        for (int n : new int[] {-1, 6, 7, LEAST, MOST}) {
            WHOLE.stays("25 betters(" + n + ")", -2, x -> x.betters(n));
        }
        WHOLE.stays("25 betters(0)", 0, x -> x.betters(0));
        for (int n : new int[] {-1, 0, 5, 6}) {
            WHOLE.staysNew("25 betters(" + n + ")", -2, x -> x.betters(n));
        }
    }

    private static void bettersAtMost() {
        for (int n = 0; n <= 5; n++) {
            PencilLine x = seven();
            CHECK.due("19 all by the crack", x.lost(1), oddsOf(7));
            CHECK.due("25 at most " + n, x.betters(n), n);
            CHECK.due("25 behind " + n, x.lost(1), oddsOf(7 - n));
            for (int heap = 0; heap < 7; heap++) {
                CHECK.due("25 heap " + heap + " behind " + n, x.lies(heap, 0), heap < n ? 2 : 0);
                CHECK.due("25 to the first row of it", x.lies(heap, 1), heap < n ? 0 : 1);
            }
            CHECK.due("25 heap 7 stays", x.lies(7, 0), 11);
            CHECK.due("25 refused behind " + n, x.betters(6), -2);
            CHECK.due("25 the rest of 7, at most 5", x.betters(5), Math.min(5, 7 - n));
            CHECK.due("25 the rest of it", x.betters(5), Math.max(0, 2 - n));
            CHECK.due("25 nothing is lost", x.lost(1), 0);
            CHECK.due("25 till none betters", x.betters(5), 0);
        }
    }

    private static void bettersNone() {
        PencilLine x = Check.on(SMALL + "crack down 1 odds 9 swell 0 warm 0 weight 0;sort heat gives 1 tons 1 many 2;");
        CHECK.due("25 no heap", x.betters(5), 0);
        CHECK.due("26 no heap", x.gap(), 0);
        x.heap(0, 0, 0);
        CHECK.due("25 a heap with nothing", x.betters(5), 0);
        CHECK.due("25 it lies where it lay", x.lies(0, 0), 0);
        x.put(0, 0, 1);
        CHECK.due("25 none betters 0", x.betters(5), 0);
        CHECK.due("25 no crack, nothing told", Check.on(SMALL).betters(5), 0);
        // less than now, not as much as now: beyond the crack it is as bad
        PencilLine y = Check.on("floe wide 2 deep 2 people 2 days 1;crack down 1 odds 9 swell 0 warm 0 weight 0;"
                + "sort heat gives 2 tons 1 many 1;");
        y.sleep(0, 0, 0, 1);
        y.sleep(1, 1, 0, 1);
        y.heap(3, 1, 1);
        y.put(3, 0, 1);
        CHECK.due("25 as much is not less", y.betters(5), 0);
        CHECK.due("25 it lies at x", y.lies(3, 0), 1);
        CHECK.due("25 it lies at y", y.lies(3, 1), 1);
    }

    /** Of several the first heap, then the first cell, by rows. */
    private static void bettersFirst() {
        PencilLine x = Check.on("floe wide 4 deep 4 people 1 days 1;crack down 2 odds 9 swell 0 warm 0 weight 0;"
                + "crack along 2 odds 9 swell 0 warm 0 weight 0;sort heat gives 1 tons 1 many 3;");
        x.sleep(0, 3, 3, 1);
        for (int heap = 2; heap < 5; heap++) {
            x.heap(heap, 0, 0);
            x.put(heap, 0, 1);
        }
        CHECK.due("25 one does", x.betters(5), 1);
        CHECK.due("25 the first heap, x", x.lies(2, 0), 2);
        CHECK.due("25 the first heap, y", x.lies(2, 1), 2);
        CHECK.due("25 the second stays", x.lies(3, 0), 0);
        CHECK.due("25 the third stays", x.lies(4, 0), 0);
        // a row ahead of a column: 3, 0 is ahead of 0, 1
        PencilLine y = Check.on("floe wide 4 deep 4 people 2 days 1;crack down 1 odds 0 swell 0 warm 0 weight 99;"
                + "sort heat gives 2 tons 50 many 2;");
        y.sleep(0, 0, 3, 1);
        y.sleep(1, 3, 3, 1);
        y.heap(0, 1, 3);
        y.put(0, 0, 1);
        CHECK.due("25 off the crack", y.betters(5), 1);
        CHECK.due("25 the first cell that is off it, x", y.lies(0, 0), 2);
        CHECK.due("25 the first cell that is off it, y", y.lies(0, 1), 0);
    }

    /**
     * Both heaps lie where nobody sleeps; two sleep beyond the one crack, two beyond the other. Where one of
     * the heaps lies with them, only the other two can be cut off: at 2, 0 it is as good as at 0, 2, but
     * beyond both cracks it weighs on both. 2, 0 is ahead of 0, 2 by rows, and behind it by columns.
     */
    private static void bettersByRows() {
        String heat = "sort heat gives 1 tons 99 many 20;";
        PencilLine x = Check.on("floe wide 3 deep 3 people 4 days 1;crack down 2 odds 100 swell 0 warm 0 weight 99;"
                + "crack along 2 odds 100 swell 0 warm 0 weight 99;" + heat + heat);
        x.sleep(0, 2, 0, 2);
        x.sleep(1, 0, 2, 2);
        x.heap(3, 0, 0);
        x.put(3, 0, 20);
        x.heap(6, 0, 0);
        x.put(6, 1, 20);
        CHECK.due("19 either crack cuts two off", x.lost(1), 19900000000L);
        CHECK.due("25 one move", x.betters(1), 1);
        CHECK.due("25 by rows, x", x.lies(3, 0), 2);
        CHECK.due("25 by rows, y", x.lies(3, 1), 0);
        CHECK.due("25 one crack alone cuts two off", x.lost(1), 10000000000L);
        CHECK.due("25 the other heap, to the other two", x.betters(5), 1);
        CHECK.due("25 it lies at x", x.lies(6, 0), 0);
        CHECK.due("25 it lies at y", x.lies(6, 1), 2);
        CHECK.due("25 none is cut off", x.lost(1), 0);
    }

    /** All columns lie by the crack: a cell off it would better, but there is none. */
    private static void bettersWithinTheFloe() {
        for (String way : new String[] {"down", "along"}) {
            PencilLine x = Check.on("floe wide 2 deep 2 people 2 days 1;crack " + way + " 1 odds 0 swell 0 warm 0 weight 99;"
                    + "sort food gives 99 tons 99 many 1;sort beds gives 2 tons 1 many 1;");
            x.sleep(0, 0, 0, 1);
            x.sleep(1, 1, 1, 1);
            x.heap(0, 0, 0);
            x.put(0, 0, 1);
            x.heap(1, 1, 1);
            x.put(1, 1, 1);
            CHECK.due("19 by its weight", x.lost(1), 9900000000L);
            CHECK.due("26 no cell is off it", x.gap(), 0);
            CHECK.due("25 no cell is off it", x.betters(5), 0);
            CHECK.due("25 it lies where it lay", x.lies(0, 0) + x.lies(0, 1), 0);
        }
    }

    private static void gapOfFive() {
        PencilLine x = seven();
        CHECK.due("26 five moves of seven", x.gap(), oddsOf(7) - oddsOf(2));
        CHECK.due("26 all stays", x.lost(1), oddsOf(7));
        CHECK.due("26 no heap moved", x.lies(0, 0), 0);
        x.betters(1);
        CHECK.due("26 five of six", x.gap(), oddsOf(6) - oddsOf(1));
        x.betters(1);
        CHECK.due("26 five of five", x.gap(), oddsOf(5));
        x.betters(1);
        CHECK.due("26 four are left", x.gap(), oddsOf(4));
        x.betters(4);
        CHECK.due("26 none is left", x.gap(), 0);
    }

    // ---- 27 heaps, 28 where ----

    private static void heapsNumbers() {
        // one on each side: one heap loses, two do not, three lay the second unit there too
        PencilLine x = Check.on("floe wide 2 deep 2 people 2 days 1;crack down 1 odds 9 swell 0 warm 0 weight 0;"
                + "sort heat gives 1 tons 1 many 2;");
        x.sleep(0, 0, 0, 1);
        x.sleep(1, 1, 0, 1);
        x.heap(5, 0, 0);
        CHECK.due("27 of one", x.heaps(), 1);
        x.heap(6, 1, 0);
        CHECK.due("27 of two", x.heaps(), 2);
        x.heap(7, 1, 1);
        CHECK.due("27 of three, the least of several", x.heaps(), 2);
        x.heap(0, 0, 1);
        CHECK.due("27 0 and 5 on one side: three", x.heaps(), 1);
        x.put(0, 0, 2);
        CHECK.due("27 however it lies now", x.heaps(), 1);
        CHECK.due("27 all stays", x.lies(0, 3), 2);
        x.heap(5, 1, 0);
        CHECK.due("27 0 and 5 on either side", x.heaps(), 2);
        // eight pieces, one person on the last: only all eight give it heat
        PencilLine y = Check.on("floe wide 12 deep 2 people 1 days 1;crack down 1 odds 9 swell 0 warm 0 weight 0;"
                + "sort heat gives 1 tons 1 many 8;");
        for (int heap = 0; heap < 7; heap++) {
            y.heap(heap, 0, 0);
        }
        y.heap(7, 11, 0);
        y.sleep(0, 11, 1, 1);
        CHECK.due("27 all eight there are", y.heaps(), 8);
        y.heap(7, 0, 0);
        CHECK.due("27 eight alike: the least", y.heaps(), 1);
    }

    /** Heat 0, 1, 0 and then seats: by laying 1 they go on to heap 1, by layings 2 and 3 to heap 0. */
    private static void heapsByLayingOne() {
        PencilLine x = Check.on("floe wide 2 deep 2 people 1 days 1;crack down 1 odds 9 swell 0 warm 0 weight 0;"
                + "sort heat gives 1 tons 1 many 3;sort seats gives 1 tons 1 many 1;");
        x.sleep(0, 1, 0, 1);
        x.heap(0, 0, 0);
        x.heap(1, 1, 0);
        CHECK.due("23 laying 1", x.trial(1), 0);
        CHECK.due("23 laying 2", x.trial(2), 900000000L);
        CHECK.due("23 laying 3", x.trial(3), 900000000L);
        CHECK.due("27 two, by laying 1", x.heaps(), 2);
        CHECK.due("24 laying 1", x.best(), 1);
    }

    private static void whereGroups() {
        for (int group : new int[] {-1, 4, 8, LEAST, MOST}) {
            WHOLE.stays("28 where(" + group + ")", -2, x -> x.where(group));
            WHOLE.staysNew("28 where(" + group + ")", -2, x -> x.where(group));
        }
        for (int group = 0; group < 4; group++) {
            int asked = group;
            WHOLE.staysNew("28 where(" + group + ")", -2, x -> x.where(asked));
        }
        WHOLE.stays("28 nobody in it: the first cell", 0, x -> x.where(3));
    }

    private static void whereFirst() {
        PencilLine x = Check.on("floe wide 12 deep 12 people 1 days 1;crack down 11 odds 9 swell 0 warm 0 weight 0;"
                + "crack along 11 odds 9 swell 0 warm 0 weight 0;sort heat gives 1 tons 1 many 1;");
        int[][] due = {{11, 11, 143}, {0, 11, 132}, {11, 0, 11}, {0, 0, 0}, {10, 10, 0}};
        for (int group = 0; group < 4; group++) {
            x.sleep(0, 0, 0, 0);
            x.sleep(group, 3, 3, 1);
            for (int[] d : due) {
                x.heap(0, d[0], d[1]);
                x.put(0, 0, 1);
                CHECK.due("28 the heap at " + d[0] + ", " + d[1], x.where(group), d[2]);
                CHECK.due("28 it sleeps where it slept", x.minutes(0, 0, 0, group),
                        Math.abs(d[0] - 3) + Math.abs(d[1] - 3));
            }
            x.sleep(group, 0, 0, 0);
        }
        x.sleep(0, 3, 3, 1);
        x.put(0, 0, 0);
        CHECK.due("28 all is lost anywhere", x.where(0), 0);
    }

    /** Heat beyond the one crack and beyond the other: 5, 0 is ahead of 0, 3 by rows, behind it by columns. */
    private static void whereByRows() {
        PencilLine x = Check.on("floe wide 6 deep 6 people 1 days 1;crack down 5 odds 9 swell 0 warm 0 weight 0;"
                + "crack along 3 odds 9 swell 0 warm 0 weight 0;sort heat gives 1 tons 1 many 2;");
        x.heap(0, 5, 2);
        x.put(0, 0, 1);
        x.heap(1, 4, 3);
        x.put(1, 0, 1);
        for (int group = 0; group < 4; group++) {
            x.sleep(0, 0, 0, 0);
            x.sleep(group, 5, 5, 1);
            CHECK.due("28 by rows, group " + group, x.where(group), 5);
            x.sleep(group, 0, 0, 0);
        }
        x.sleep(0, 0, 3, 1);
        CHECK.due("28 also where it sleeps as well now", x.where(0), 5);
        x.put(0, 0, 0);
        CHECK.due("28 the heap in the other row alone", x.where(0), 36);
    }

    /**
     * At 1 both cracks must open, by 4,564 each: in an hour that is less than 2,282 at 3, in two it would be
     * more. The crack between, at 3, is open for ever.
     */
    private static void whereInAnHour() {
        String often = " odds 500 swell 99 warm 99 weight 0";
        PencilLine x = Check.on("floe wide 5 deep 2 people 1 days 1;sea swell 9 warm 9;"
                + "crack down 1" + often + " old;crack down 2" + often + " old;crack down 4" + often + ";"
                + "crack down 3 odds 0 swell 0 warm 0 weight 0;"
                + "sort heat gives 1 tons 1 many 3;sort beds gives 1 tons 1 many 2;");
        for (int heap = 0; heap < 5; heap++) {
            x.heap(heap, heap, 1);
            x.put(heap, heap == 1 || heap == 4 ? 1 : 0, 1);
        }
        x.open(8);
        x.sleep(0, 1, 0, 1);
        CHECK.due("19 at 1, in an hour", x.lost(1), ALL / 100000000 * 4564 * 4564);
        long two = x.lost(2);
        x.sleep(0, 3, 0, 1);
        CHECK.due("19 at 3, in an hour", x.lost(1), ALL / 10000 * 2282);
        CHECK.holds("19 in two hours 3 is the better", x.lost(2) < two);
        CHECK.due("28 in an hour 1 is", x.where(0), 1);
    }

    // ---- 29 watch, 30 watches ----

    private static void watchNumbers() {
        for (int n : new int[] {-1, 29, 30, LEAST, MOST}) {
            WHOLE.stays("29 watch(" + n + ")", -2, x -> x.watch(n));
            WHOLE.staysNew("29 watch(" + n + ")", -2, x -> x.watch(n));
        }
        long left = ALL;
        for (int n = 0; n <= 28; n++) {
            int asked = n;
            WHOLE.stays("29 watch(" + n + ")", left, x -> x.watch(asked));
            left = left * 60 / 100;
        }
        WHOLE.staysNew("29 watch(28)", 3725, x -> x.watch(28));
    }

    private static void watchCut() {
        PencilLine x = Check.on(SMALL + "sees 99;");
        long[] due = {ALL, 10000000000L, 100000000L, 1000000L, 10000L, 100L, 1L, 0L, 0L};
        for (int n = 0; n < due.length; n++) {
            CHECK.due("29 cut each time, " + n, x.watch(n), due[n]);
        }
        PencilLine none = Check.on(SMALL + "sees 0;");
        CHECK.due("29 sees 0, 28", none.watch(28), ALL);
        CHECK.due("30 sees 0, 999", none.watches(999), -1);
        CHECK.due("30 sees 0, 1,000", none.watches(1000), 0);
        PencilLine all = Check.on(SMALL + "sees 100;");
        CHECK.due("29 sees 100, one", all.watch(1), 0);
        CHECK.due("29 sees 100, none", all.watch(0), ALL);
        CHECK.due("30 sees 100, 0", all.watches(0), 1);
    }

    private static void watchesNumbers() {
        for (int n : new int[] {-1, 1001, LEAST, MOST}) {
            WHOLE.stays("30 watches(" + n + ")", -2, x -> x.watches(n));
            WHOLE.staysNew("30 watches(" + n + ")", -2, x -> x.watches(n));
        }
        WHOLE.stays("30 watches(1000)", 0, x -> x.watches(1000));
        WHOLE.stays("30 watches(600)", 1, x -> x.watches(600));
        WHOLE.stays("30 watches(599)", 2, x -> x.watches(599));
        WHOLE.stays("30 watches(0)", -1, x -> x.watches(0));
    }

    /** Just 28 do, and just not; no more than so many, that is also just so many. */
    private static void watchesJust() {
        PencilLine x = Check.on(SMALL + "sees 1;");
        // 99 of 100 28 times is 754.7 of 1,000, 27 times 762.3
        CHECK.due("30 28 do", x.watches(755), 28);
        CHECK.due("30 28 do not", x.watches(754), -1);
        CHECK.due("30 27 do not", x.watches(762), 28);
        CHECK.due("30 27 do", x.watches(763), 27);
        CHECK.due("30 990 is no more than 990", x.watches(990), 1);
        CHECK.due("30 989", x.watches(989), 2);
        // parts by 28 that are 0: cut to nothing
        PencilLine cut = Check.on(SMALL + "sees 63;");
        CHECK.due("30 0 of 1,000 by cutting", cut.watches(0), cutToNothing(37));
        PencilLine fewer = Check.on(SMALL + "sees 60;");
        CHECK.due("30 0 of 1,000, not within 28", fewer.watches(0), cutToNothing(40));
    }

    private static int cutToNothing(long percent) {
        long left = ALL;
        for (int n = 0; n <= 28; n++) {
            if (left == 0) {
                return n;
            }
            left = left * percent / 100;
        }
        return -1;
    }
}
