/** The boundaries of promises 31 to 40: other floes, loads, fetching. */
public final class EdgeGoingTest {
    private static final long ALL = 1000000000000L;
    private static final int LEAST = Integer.MIN_VALUE;
    private static final int MOST = Integer.MAX_VALUE;
    private static final String SMALL = "floe wide 2 deep 2 people 1 days 1;";
    private static final Check CHECK = new Check("EdgeGoingTest");
    private static final Whole WHOLE = new Whole(CHECK);

    public static void main(String[] args) {
        aliveRefused();
        aliveDays();
        aliveOthers();
        aliveComing();
        aliveCut();
        goBehindTheDay();
        goOfSeveral();
        leaveDays();
        leastRefused();
        leastJust();
        leastMost();
        loadRefused();
        loadJust();
        loadOfSeveral();
        lastsRefused();
        lastsJust();
        lastsEnds();
        acrossRefused();
        acrossCells();
        minutesRefused();
        minutesJust();
        fetchRefused();
        fetchJust();
        fetchedRefused();
        fetchedZero();
        fetchedOfSeveral();
        CHECK.finish();
    }

    // ---- 31 alive, 32 go, 33 leave ----

    /** Days 1 to 10, two others, so on 0 to 2 and seen 0 to 3. */
    private static void aliveRefused() {
        int[][] wrong = {{0, 0, 0}, {-1, 0, 0}, {11, 0, 0}, {60, 0, 0}, {LEAST, 0, 0}, {MOST, 0, 0}, {1, -1, 0}, {1, 3, 3},
            {1, LEAST, 3}, {1, MOST, 3}, {1, 0, -1}, {1, 0, 4}, {1, 1, 5}, {1, 0, LEAST}, {1, 0, MOST}, {1, 1, 0},
            {1, 1, 2}, {1, 2, 0}, {1, 2, 1}, {10, 2, 1}, {10, 3, 7}, {10, 1, -1}};
        for (int[] w : wrong) {
            String of = "(" + w[0] + ", " + w[1] + ", " + w[2] + ")";
            WHOLE.stays("31 alive" + of, -2, x -> x.alive(w[0], w[1], w[2]));
            WHOLE.stays("32 go" + of, -2, x -> x.go(w[0], w[1], w[2]));
        }
        int[][] right = {{1, 0, 0}, {10, 0, 0}, {1, 1, 1}, {1, 1, 3}, {1, 2, 2}, {10, 2, 3}, {1, 0, 3}};
        for (int[] r : right) {
            String of = "(" + r[0] + ", " + r[1] + ", " + r[2] + ")";
            CHECK.holds("31 alive" + of, Whole.lived().alive(r[0], r[1], r[2]) > 0);
            CHECK.holds("32 go" + of, Whole.lived().go(r[0], r[1], r[2]) >= 0);
            WHOLE.asks("31 alive" + of, x -> x.alive(r[0], r[1], r[2]));
            WHOLE.asks("32 go" + of, x -> x.go(r[0], r[1], r[2]));
        }
        WHOLE.asks("33 leave()", x -> x.leave());
    }

    private static void aliveDays() {
        for (int days : new int[] {1, 2, 60}) {
            PencilLine x = Check.on("floe wide 2 deep 2 people 1 days " + days + ";breaks 5000 crossing 0;");
            CHECK.due("31 the last of " + days, x.alive(days, 0, 0), ALL / 2);
            CHECK.due("31 beyond " + days, x.alive(days + 1, 0, 0), -2);
            CHECK.due("32 the last of " + days, x.go(days, 0, 0), 0);
            CHECK.due("32 beyond " + days, x.go(days + 1, 0, 0), -2);
            CHECK.due("31 no day 0", x.alive(0, 0, 0), -2);
            CHECK.due("32 no day 0", x.go(0, 0, 0), -2);
            long left = ALL;
            for (int day = days; day >= 1; day--) {
                left /= 2;
            }
            CHECK.due("31 the first of " + days, x.alive(1, 0, 0), left);
        }
    }

    private static void aliveOthers() {
        PencilLine none = Check.on(SMALL);
        CHECK.due("31 no others, seen 0", none.alive(1, 0, 0), ALL);
        CHECK.due("31 no others, seen 1", none.alive(1, 0, 1), -2);
        CHECK.due("31 no others, on 1", none.alive(1, 1, 0), -2);
        CHECK.due("31 no others, on 1 seen", none.alive(1, 1, 1), -2);
        PencilLine four = Check.on(SMALL + "breaks 1 crossing 9999;other day 1 odds 0 breaks 10;"
                + "other day 1 odds 0 breaks 20;other day 1 odds 0 breaks 30;other day 1 odds 0 breaks 40;");
        for (int on = 1; on <= 4; on++) {
            CHECK.due("31 on " + on + ", all seen", four.alive(1, on, 15), ALL / 10000 * (10000 - 10 * on));
            CHECK.due("31 on " + on + ", it alone seen", four.alive(1, on, 1 << on - 1),
                    ALL / 10000 * (10000 - 10 * on));
            CHECK.due("31 on " + on + ", all but it seen", four.alive(1, on, 15 - (1 << on - 1)), -2);
            CHECK.due("32 on " + on + ", all but it seen", four.go(1, on, 15 - (1 << on - 1)), -2);
            CHECK.due("32 on " + on + ", crossing costs all", four.go(1, on, 15), on);
        }
        CHECK.due("31 seen 16", four.alive(1, 0, 16), -2);
        CHECK.due("31 on 5", four.alive(1, 5, 15), -2);
        CHECK.due("31 on 5 seen", four.alive(1, 5, 31), -2);
        CHECK.due("32 seen 16", four.go(1, 0, 16), -2);
    }

    /** On its day and no earlier, with its odds; one that is near stays near. */
    private static void aliveComing() {
        String floe = "floe wide 2 deep 2 people 1 days 3;breaks 5000 crossing 0;";
        PencilLine x = Check.on(floe + "other day 2 odds 100 breaks 0;");
        CHECK.due("31 it comes on day 3 too", x.alive(3, 0, 0), ALL);
        CHECK.due("31 it comes on its day", x.alive(2, 0, 0), ALL);
        CHECK.due("31 not ahead of it", x.alive(1, 0, 0), ALL / 2);
        CHECK.due("31 near ahead of it", x.alive(1, 0, 1), ALL);
        PencilLine never = Check.on(floe + "other day 1 odds 0 breaks 0;");
        CHECK.due("31 odds 0: never", never.alive(1, 0, 0), ALL / 8);
        CHECK.due("31 odds 0: near it is", never.alive(1, 0, 1), ALL);
        CHECK.due("33 leave at odds 0 all the same", never.leave(), 1);
        PencilLine half = Check.on(floe + "other day 3 odds 50 breaks 0;");
        CHECK.due("31 by half on the last day", half.alive(3, 0, 0), ALL / 4 * 3);
        CHECK.due("31 a day ahead", half.alive(2, 0, 0), ALL / 8 * 3);
        CHECK.due("31 not in sight behind the last day",
                Check.on(floe + "other day 4 odds 100 breaks 0;").alive(1, 0, 0), ALL / 8);
        // each day it may come, if it has not
        PencilLine each = Check.on(floe + "other day 1 odds 50 breaks 0;");
        CHECK.due("31 the last day", each.alive(3, 0, 0), ALL / 4 * 3);
        CHECK.due("31 two days", each.alive(2, 0, 0), ALL / 2 + ALL / 16 * 3);
    }

    private static void aliveCut() {
        // 10^12 times 1 by 10,000 three times is 1; then 0
        PencilLine x = Check.on("floe wide 2 deep 2 people 1 days 4;breaks 9999 crossing 0;");
        CHECK.due("31 three days", x.alive(2, 0, 0), 1);
        CHECK.due("31 four days, cut", x.alive(1, 0, 0), 0);
        // going is cut behind breaking: 10^12 by 9,999 of 10,000 and so on, on the last day
        PencilLine y = Check.on(SMALL + "breaks 9999 crossing 9999;other day 1 odds 0 breaks 0;");
        CHECK.due("31 staying is as good as crossing", y.alive(1, 0, 1), ALL / 10000);
        CHECK.due("32 staying ahead of going", y.go(1, 0, 1), 0);
        PencilLine z = Check.on(SMALL + "breaks 9999 crossing 9998;other day 1 odds 0 breaks 0;");
        CHECK.due("31 crossing is better by as little", z.alive(1, 0, 1), ALL / 5000);
        CHECK.due("32 going", z.go(1, 0, 1), 1);
    }

    /** The evening counts by the day behind it: what comes on the day itself is not asked any more. */
    private static void goBehindTheDay() {
        PencilLine x = Check.on("floe wide 2 deep 2 people 1 days 2;breaks 5000 crossing 0;"
                + "other day 1 odds 0 breaks 4999;other day 2 odds 100 breaks 0;");
        CHECK.due("32 the better one comes tomorrow, from either: the safer night", x.go(1, 0, 1), 1);
        CHECK.due("32 on the last day", x.go(2, 0, 1), 1);
        CHECK.due("32 none near", x.go(2, 0, 0), 0);
        CHECK.due("32 near already", x.go(2, 0, 3), 2);
        CHECK.due("32 from 1 to 2", x.go(2, 1, 3), 2);
        CHECK.due("32 never to 0", Check.on(SMALL + "other day 1 odds 0 breaks 9999;").go(1, 1, 1), 1);
    }

    private static void goOfSeveral() {
        PencilLine x = Check.on(SMALL + "breaks 10 crossing 0;other day 1 odds 0 breaks 9;"
                + "other day 1 odds 0 breaks 9;other day 1 odds 0 breaks 8;other day 1 odds 0 breaks 8;");
        int[] due = {0, 1, 2, 1, 3, 3, 3, 3, 4, 4, 4, 4, 3, 3, 3, 3};
        for (int seen = 0; seen < 16; seen++) {
            CHECK.due("32 the least floe first, seen " + seen, x.go(1, 0, seen), due[seen]);
        }
        CHECK.due("32 on one as good: it stays", x.go(1, 2, 3), 2);
        CHECK.due("32 on the last: it stays", x.go(1, 4, 15), 4);
        CHECK.due("32 on a worse one", x.go(1, 1, 15), 3);
    }

    private static void leaveDays() {
        String floe = "floe wide 2 deep 2 people 1 days 9;breaks 5000 crossing 0;";
        CHECK.due("33 no other", Check.on(floe).leave(), -1);
        CHECK.due("33 the first day", Check.on(floe + "other day 1 odds 1 breaks 0;").leave(), 1);
        CHECK.due("33 the last day", Check.on(floe + "other day 9 odds 1 breaks 0;").leave(), 9);
        CHECK.due("33 a day behind the last", Check.on(floe + "other day 10 odds 1 breaks 0;").leave(), -1);
        CHECK.due("33 as good", Check.on(floe + "other day 1 odds 1 breaks 5000;").leave(), -1);
        CHECK.due("33 better by one", Check.on(floe + "other day 1 odds 1 breaks 4999;").leave(), 1);
        // crossing does not pay for one night, but for two
        String two = "breaks 500 crossing 600;other day 1 odds 0 breaks 100;";
        CHECK.due("33 one night", Check.on(SMALL + two).leave(), -1);
        CHECK.due("33 two nights", Check.on("floe wide 2 deep 2 people 1 days 2;" + two).leave(), 1);
        CHECK.due("33 ten nights", Check.on("floe wide 2 deep 2 people 1 days 10;" + two).leave(), 1);
        CHECK.due("33 the last but one of ten", Check.on("floe wide 2 deep 2 people 1 days 10;"
                + two.replace("day 1", "day 9")).leave(), 9);
        CHECK.due("33 the last of ten", Check.on("floe wide 2 deep 2 people 1 days 10;"
                + two.replace("day 1", "day 10")).leave(), -1);
        WHOLE.staysNew("33 leave()", -2, x -> x.leave());
    }

    // ---- 34 least, 35 load, 36 lasts ----

    private static void leastRefused() {
        int[][] wrong = {{-1, 0, 0}, {29, 0, 0}, {0, -1, 0}, {0, 61, 0}, {0, 0, -2}, {0, 0, 4}, {LEAST, 0, 0}, {MOST, 0, 0},
            {0, LEAST, 0}, {0, MOST, 0}, {0, 0, LEAST}, {0, 0, MOST}, {29, 60, -1}, {28, 61, -1}};
        for (int[] w : wrong) {
            String of = "34 least(" + w[0] + ", " + w[1] + ", " + w[2] + ")";
            WHOLE.stays(of, -2, x -> x.least(w[0], w[1], w[2]));
            WHOLE.staysNew(of, -2, x -> x.least(w[0], w[1], w[2]));
        }
        for (int kind = -1; kind < 4; kind++) {
            int asked = kind;
            WHOLE.staysNew("34 least(28, 60, " + kind + ")", 0, x -> x.least(28, 60, asked));
            WHOLE.stays("34 least(0, 0, " + kind + ")", 0, x -> x.least(0, 0, asked));
            WHOLE.stays("34 least(0, 60, " + kind + ")", 0, x -> x.least(0, 60, asked));
        }
        WHOLE.stays("34 food can't be", -1, x -> x.least(28, 60, 0));
        WHOLE.stays("34 seats can't be", -1, x -> x.least(28, 60, 2));
        WHOLE.stays("34 together they can't be", -1, x -> x.least(28, 60, -1));
        WHOLE.stays("34 beds are not told", 0, x -> x.least(28, 60, 1));
    }

    /** Food: 4 units of 45 and 20 tons; seats: 5 units of 3 and 7 tons. */
    private static void leastJust() {
        int[][] due = {{0, 0, 0, 0}, {1, 45, 0, 20}, {1, 46, 0, 40}, {9, 5, 0, 20}, {3, 60, 0, 80}, {28, 6, 0, 80},
            {4, 45, 0, 80}, {18, 10, 0, 80}, {28, 7, 0, -1}, {14, 13, 0, -1}, {3, 0, 2, 7}, {4, 0, 2, 14}, {15, 60, 2, 35},
            {16, 60, 2, -1}, {15, 12, -1, 115}, {15, 13, -1, -1}, {16, 1, -1, -1}, {15, 0, -1, 35}};
        for (int[] d : due) {
            WHOLE.stays("34 least(" + d[0] + ", " + d[1] + ", " + d[2] + ")", d[3], x -> x.least(d[0], d[1], d[2]));
        }
    }

    private static void leastMost() {
        // 1,680 is the most that can be needed: 16 of 99 and one of 96
        String text = SMALL + "sort food gives 99 tons 99 many 16;sort food gives 96 tons 1 many 1;";
        CHECK.due("34 just 1,680", Check.on(text).least(28, 60, 0), 1585);
        CHECK.due("34 just 1,680, all kinds", Check.on(text).least(28, 60, -1), 1585);
        CHECK.due("34 1,679", Check.on(text.replace("96", "95")).least(28, 60, 0), -1);
        CHECK.due("34 1,652 of 1,679", Check.on(text.replace("96", "95")).least(28, 59, 0), 1585);
        PencilLine heavy = Check.on(SMALL + "sort food gives 14 tons 99 many 20;".repeat(6));
        CHECK.due("34 120 units of 99 tons", heavy.least(28, 60, 0), 11880);
        CHECK.due("35 all of the last sort", heavy.load(28, 60, 5), 20);
        CHECK.due("35 all of the first", heavy.load(28, 60, 0), 20);
        PencilLine none = Check.on(SMALL + "sort heat gives 9 tons 9 many 0;");
        CHECK.due("34 many 0, for one", none.least(1, 0, 3), -1);
        CHECK.due("34 many 0, for nobody", none.least(0, 60, 3), 0);
        CHECK.due("34 many 0, all kinds", none.least(1, 0, -1), -1);
        CHECK.due("35 many 0, for one", none.load(1, 0, 0), -1);
        CHECK.due("35 many 0, for nobody", none.load(0, 0, 0), 0);
    }

    private static void loadRefused() {
        int[][] wrong = {{-1, 0, 0}, {29, 0, 0}, {0, -1, 0}, {0, 61, 0}, {0, 0, -1}, {0, 0, 2}, {0, 0, 6}, {LEAST, 0, 0},
            {MOST, 0, 0}, {0, LEAST, 0}, {0, MOST, 0}, {0, 0, LEAST}, {0, 0, MOST}, {29, 60, 0}, {28, 60, 2}};
        for (int[] w : wrong) {
            WHOLE.stays("35 load(" + w[0] + ", " + w[1] + ", " + w[2] + ")", -2, x -> x.load(w[0], w[1], w[2]));
        }
        WHOLE.staysNew("35 load(0, 0, 0)", -2, x -> x.load(0, 0, 0));
    }

    private static void loadJust() {
        int[][] due = {{0, 60, 0, 0}, {0, 60, 1, 0}, {28, 0, 0, 0}, {1, 45, 0, 1}, {1, 46, 0, 2}, {3, 60, 0, 4}, {28, 60, 0, -1},
            {4, 45, 0, 4}, {4, 46, 0, -1}, {15, 60, 1, 5}, {16, 60, 1, -1}, {15, 0, 1, 5}, {13, 0, 1, 5}, {12, 0, 1, 4},
            {16, 11, 0, 4}, {28, 1, 0, 1}};
        for (int[] d : due) {
            WHOLE.stays("35 load(" + d[0] + ", " + d[1] + ", " + d[2] + ")", d[3], x -> x.load(d[0], d[1], d[2]));
        }
    }

    /** Of several with the least tons the fewest of the least sort, then of the next. */
    private static void loadOfSeveral() {
        PencilLine x = Check.on(SMALL + "sort heat gives 1 tons 1 many 9;sort heat gives 1 tons 1 many 2;"
                + "sort beds gives 1 tons 1 many 9;sort heat gives 1 tons 1 many 3;");
        int[][] due = {{1, 0, 0, 1}, {3, 0, 0, 3}, {4, 0, 1, 3}, {5, 0, 2, 3}, {6, 1, 2, 3}, {9, 4, 2, 3}};
        for (int[] d : due) {
            CHECK.due("35 the first, for " + d[0], x.load(d[0], 0, 0), d[1]);
            CHECK.due("35 the second, for " + d[0], x.load(d[0], 0, 1), d[2]);
            CHECK.due("35 beds, for " + d[0], x.load(d[0], 0, 2), d[0]);
            CHECK.due("35 the fourth, for " + d[0], x.load(d[0], 0, 3), d[3]);
        }
        // more than enough, with the least tons all the same
        PencilLine y = Check.on(SMALL + "sort heat gives 28 tons 9 many 1;sort heat gives 1 tons 1 many 20;");
        CHECK.due("35 eight of one", y.load(8, 0, 1), 8);
        CHECK.due("35 nine of one: fewest of the least sort", y.load(9, 0, 0), 0);
        CHECK.due("35 ten: one that is more than enough", y.load(10, 0, 0), 1);
        CHECK.due("35 ten: none of the other", y.load(10, 0, 1), 0);
    }

    private static void lastsRefused() {
        int[][] wrong = {{-1, 0}, {29, 0}, {0, -1}, {0, 10000}, {LEAST, 0}, {MOST, 0}, {0, LEAST}, {0, MOST}, {29, 10000}};
        for (int[] w : wrong) {
            WHOLE.stays("36 lasts(" + w[0] + ", " + w[1] + ")", -2, x -> x.lasts(w[0], w[1]));
            WHOLE.staysNew("36 lasts(" + w[0] + ", " + w[1] + ")", -2, x -> x.lasts(w[0], w[1]));
        }
        WHOLE.staysNew("36 lasts(28, 9999)", 60, x -> x.lasts(28, 9999));
        WHOLE.staysNew("36 lasts(0, 0)", 60, x -> x.lasts(0, 0));
    }

    private static void lastsJust() {
        // seats for 3: 7 tons; food for 3: 15 days a unit of 20 tons
        int[][] due = {{3, 6, -1}, {3, 7, 0}, {3, 26, 0}, {3, 27, 15}, {3, 46, 15}, {3, 47, 30}, {3, 86, 45}, {3, 87, 60},
            {3, 9999, 60}, {15, 9999, 12}, {15, 34, -1}, {15, 35, 0}, {16, 9999, -1}, {28, 9999, -1}, {0, 0, 60}};
        for (int[] d : due) {
            WHOLE.stays("36 lasts(" + d[0] + ", " + d[1] + ")", d[2], x -> x.lasts(d[0], d[1]));
        }
    }

    private static void lastsEnds() {
        PencilLine none = Check.on(SMALL + "sort food gives 9 tons 9 many 0;");
        CHECK.due("36 many 0: no days", none.lasts(1, 9999), 0);
        CHECK.due("36 many 0, nobody", none.lasts(0, 0), 60);
        PencilLine full = Check.on(SMALL + "sort food gives 60 tons 1 many 1;");
        CHECK.due("36 just 60 days", full.lasts(1, 1), 60);
        CHECK.due("36 not a ton", full.lasts(1, 0), 0);
        CHECK.due("36 59", Check.on(SMALL + "sort food gives 59 tons 1 many 1;").lasts(1, 1), 59);
        // 101 units of 99 tons are 9,999: of 14 each they last 50 days for 28
        PencilLine heavy = Check.on(SMALL + "sort food gives 14 tons 99 many 20;".repeat(6));
        CHECK.due("36 9,999 tons", heavy.lasts(28, 9999), 50);
        CHECK.due("36 10,000 tons", heavy.lasts(28, 10000), -2);
        CHECK.due("36 9,900 tons, just 50 days", heavy.lasts(28, 9900), 50);
        CHECK.due("36 a ton less", heavy.lasts(28, 9899), 49);
    }

    // ---- 37 across, 38 minutes ----

    private static void acrossRefused() {
        int[][] wrong = {{-1, 0, 0}, {8, 0, 0}, {LEAST, 0, 0}, {MOST, 0, 0}, {0, -1, 0}, {0, 8, 0}, {0, LEAST, 0},
            {0, MOST, 0}, {0, 0, -1}, {0, 0, 4}, {0, 0, LEAST}, {0, 0, MOST}, {8, 1, 0}, {0, 1, 4}, {-1, 1, 0}, {0, 1, -1}};
        for (int[] w : wrong) {
            WHOLE.stays("37 across(" + w[0] + ", " + w[1] + ", " + w[2] + ")", -2, x -> x.across(w[0], w[1], w[2]));
        }
        for (int heap : new int[] {1, 2, 4, 5, 6}) {
            WHOLE.stays("37 no heap " + heap + " now", -1, x -> x.across(7, heap, 3));
        }
        WHOLE.stays("37 the last of each", 1, x -> x.across(7, 7, 3));
        WHOLE.stays("37 over all three", 3, x -> x.across(7, 7, 0));
        WHOLE.stays("37 the first of each", 0, x -> x.across(0, 0, 0));
        WHOLE.staysNew("37 no floe", -2, x -> x.across(0, 0, 0));
    }

    /** Above the lesser, no more than the greater, either way round. */
    private static void acrossCells() {
        PencilLine x = Check.on("floe wide 12 deep 12 people 1 days 1;crack down 5 odds 0 swell 0 warm 0 weight 0;"
                + "crack along 5 odds 0 swell 0 warm 0 weight 0;sort heat gives 1 tons 1 many 1;");
        int[][] due = {{4, 4, 0}, {4, 5, 1}, {5, 5, 0}, {5, 4, 1}, {0, 11, 1}, {11, 0, 1}, {5, 11, 0}, {0, 4, 0}};
        for (int[] d : due) {
            x.heap(0, d[0], 0);
            x.sleep(0, d[1], 0, 1);
            CHECK.due("37 columns " + d[0] + " and " + d[1], x.across(3, 0, 0), d[2]);
            CHECK.due("37 not of the set", x.across(2, 0, 0), 0);
            x.heap(0, 0, d[0]);
            x.sleep(0, 0, d[1], 1);
            CHECK.due("37 rows " + d[0] + " and " + d[1], x.across(3, 0, 0), d[2]);
            x.heap(0, d[0], d[0]);
            x.sleep(0, d[1], d[1], 0);
            CHECK.due("37 both", x.across(3, 0, 0), 2 * d[2]);
        }
    }

    private static void minutesRefused() {
        int[][] wrong = {{-1, 0, 0, 0}, {8, 0, 0, 0}, {LEAST, 0, 0, 0}, {MOST, 0, 0, 0}, {0, -1, 0, 0}, {0, 8, 0, 0},
            {0, LEAST, 0, 0}, {0, MOST, 0, 0}, {0, 0, -1, 0}, {0, 0, 2, 0}, {0, 0, LEAST, 0}, {0, 0, MOST, 0},
            {0, 0, 0, -1}, {0, 0, 0, 4}, {0, 0, 0, LEAST}, {0, 0, 0, MOST}, {8, 1, 0, 0}, {0, 1, 2, 0}, {0, 1, 0, 4},
            {0, 1, -1, 0}};
        for (int[] w : wrong) {
            String of = "(" + w[0] + ", " + w[1] + ", " + w[2] + ", " + w[3] + ")";
            WHOLE.stays("38 minutes" + of, -2, x -> x.minutes(w[0], w[1], w[2], w[3]));
        }
        WHOLE.stays("38 no such heap now", -1, x -> x.minutes(7, 1, 1, 3));
        WHOLE.staysNew("38 no floe", -2, x -> x.minutes(0, 0, 0, 0));
    }

    private static void minutesJust() {
        // heap 7 at 5, 3 and group 0 at 0, 0: 8 steps, fetch 2, across 7; heap 0 at 1, 1
        int[][] due = {{0, 7, 0, 0, 320}, {7, 7, 0, 0, 341}, {7, 7, 1, 0, 133}, {1, 7, 1, 0, 119}, {7, 0, 0, 0, 80},
            {7, 0, 1, 2, 2 * 7 * 2 + 7}};
        for (int[] d : due) {
            String of = "(" + d[0] + ", " + d[1] + ", " + d[2] + ", " + d[3] + ")";
            WHOLE.stays("38 minutes" + of, d[4], x -> x.minutes(d[0], d[1], d[2], d[3]));
        }
        PencilLine x = Check.on("floe wide 12 deep 12 people 1 days 1;"
                + "crack down 1 odds 0 swell 0 warm 0 weight 0;".repeat(7)
                + "sort heat gives 1 tons 99 many 1;fetch 60 across 60;");
        x.heap(0, 11, 11);
        CHECK.due("38 the most", x.minutes(127, 0, 0, 0), 99 * 22 * 60 + 7 * 60);
        x.heap(0, 0, 0);
        CHECK.due("38 none", x.minutes(127, 0, 0, 0), 0);
        PencilLine free = Check.on(SMALL + "crack down 1 odds 0 swell 0 warm 0 weight 0;"
                + "sort heat gives 1 tons 99 many 1;fetch 0 across 0;");
        free.heap(0, 1, 1);
        CHECK.due("38 fetch 0 across 0", free.minutes(1, 0, 0, 0), 0);
    }

    // ---- 39 fetch, 40 fetched ----

    private static void fetchRefused() {
        int[][] wrong = {{-1, 0}, {8, 0}, {LEAST, 0}, {MOST, 0}, {0, -1}, {0, 4}, {7, LEAST}, {7, MOST}, {8, 4}};
        for (int[] w : wrong) {
            WHOLE.stays("39 fetch(" + w[0] + ", " + w[1] + ")", -2, x -> x.fetch(w[0], w[1]));
        }
        for (int set = 0; set < 8; set++) {
            for (int group = 0; group < 4; group++) {
                int s = set;
                int g = group;
                WHOLE.asks("39 fetch(" + set + ", " + group + ")", x -> x.fetch(s, g));
            }
        }
        WHOLE.staysNew("39 fetch(0, 0)", -2, x -> x.fetch(0, 0));
    }

    /** Two sleep beyond a crack; just enough there, just enough with what is fetched, one too few. */
    private static void fetchJust() {
        PencilLine x = Check.on("floe wide 4 deep 2 people 3 days 2;crack down 2 odds 0 swell 0 warm 0 weight 0;"
                + "sort food gives 1 tons 2 many 9;sort heat gives 1 tons 1 many 9;fetch 3 across 4;");
        x.sleep(0, 0, 0, 2);
        x.heap(0, 1, 0);
        x.heap(1, 3, 0);
        x.put(0, 0, 4);
        x.put(0, 1, 2);
        CHECK.due("39 just enough there", x.fetch(1, 0), 0);
        x.put(0, 0, 3);
        CHECK.due("39 one less, and nothing elsewhere", x.fetch(1, 0), -1);
        x.put(1, 0, 1);
        CHECK.due("39 just with that one", x.fetch(1, 0), 2 * 3 * 3 + 4);
        CHECK.due("39 all on one piece", x.fetch(0, 0), 0);
        x.put(0, 1, 1);
        CHECK.due("39 the other kind can't be", x.fetch(1, 0), -1);
        CHECK.due("40 food can", x.fetched(1, 0, 1, 0), 1);
        CHECK.due("40 heat can't be", x.fetched(1, 0, 1, 1), -1);
        CHECK.due("39 nor on one piece", x.fetch(0, 0), -1);
        x.put(1, 1, 1);
        CHECK.due("39 both", x.fetch(1, 0), 22 + 13);
        x.sleep(1, 3, 1, 1);
        CHECK.due("39 for the one beyond: food from here", x.fetch(1, 1), 2 * 3 * 3 + 4);
        CHECK.due("39 the piece of both together", x.fetch(0, 1), -1);
        CHECK.due("39 a group without people among others", x.fetch(1, 3), 35);
        x.sleep(3, 3, 0, 0);
        x.sleep(1, 0, 1, 1);
        CHECK.due("39 a group without people alone", x.fetch(1, 3), 0);
        PencilLine none = Check.on(SMALL);
        CHECK.due("39 no kind is told", none.fetch(0, 0), 0);
        CHECK.due("39 no set 1", none.fetch(1, 0), -2);
        PencilLine no = Check.on(SMALL + "sort heat gives 1 tons 1 many 1;");
        CHECK.due("39 told, no heap", no.fetch(0, 0), -1);
        no.sleep(0, 0, 0, 0);
        CHECK.due("39 for nobody", no.fetch(0, 0), 0);
    }

    private static void fetchedRefused() {
        int[][] wrong = {{-1, 0, 0, 0}, {8, 0, 0, 0}, {LEAST, 0, 0, 0}, {MOST, 0, 0, 0}, {0, -1, 0, 0}, {0, 4, 0, 0},
            {0, LEAST, 0, 0}, {0, MOST, 0, 0}, {0, 0, -1, 0}, {0, 0, 8, 0}, {0, 0, LEAST, 0}, {0, 0, MOST, 0},
            {0, 0, 0, -1}, {0, 0, 0, 2}, {0, 0, 0, LEAST}, {0, 0, 0, MOST}, {7, 3, 1, 2}, {8, 3, 1, 0}};
        for (int[] w : wrong) {
            String of = "(" + w[0] + ", " + w[1] + ", " + w[2] + ", " + w[3] + ")";
            WHOLE.stays("40 fetched" + of, -2, x -> x.fetched(w[0], w[1], w[2], w[3]));
        }
        WHOLE.asks("40 fetched(7, 3, 7, 1)", x -> x.fetched(7, 3, 7, 1));
        WHOLE.staysNew("40 fetched(0, 0, 0, 0)", -2, x -> x.fetched(0, 0, 0, 0));
    }

    private static void fetchedZero() {
        PencilLine x = Check.on("floe wide 4 deep 2 people 2 days 1;crack down 2 odds 0 swell 0 warm 0 weight 0;"
                + "sort heat gives 1 tons 1 many 9;sort heat gives 1 tons 1 many 9;sort beds gives 1 tons 1 many 9;");
        x.heap(0, 0, 0);
        x.heap(1, 3, 0);
        x.put(0, 0, 1);
        x.put(1, 0, 5);
        x.put(1, 2, 1);
        CHECK.due("40 what lacks, from the heap beyond", x.fetched(1, 0, 1, 0), 1);
        CHECK.due("40 0 of a sort it has none of", x.fetched(1, 0, 1, 1), 0);
        CHECK.due("40 0 from the heap that is there", x.fetched(1, 0, 0, 0), 0);
        for (int heap = 2; heap < 8; heap++) {
            CHECK.due("40 0 from none", x.fetched(1, 0, heap, 0), 0);
        }
        CHECK.due("40 0, as all are there", x.fetched(0, 0, 1, 0), 0);
        CHECK.due("40 beds can't be", x.fetched(1, 0, 1, 2), -1);
        x.put(0, 0, 2);
        CHECK.due("40 0, as it is enough", x.fetched(1, 0, 1, 0), 0);
        x.sleep(0, 0, 0, 0);
        CHECK.due("40 0 of beds for nobody", x.fetched(1, 0, 1, 2), 0);
    }

    /** Of several with the least minutes the fewest of the first heap's first sort, its next, the next heap's. */
    private static void fetchedOfSeveral() {
        PencilLine x = Check.on("floe wide 4 deep 2 people 28 days 1;crack down 2 odds 0 swell 0 warm 0 weight 0;"
                + "sort heat gives 1 tons 1 many 4;sort heat gives 1 tons 1 many 4;fetch 1 across 1;");
        for (int heap : new int[] {2, 7}) {
            x.heap(heap, 3, 0);
            x.put(heap, 0, 2);
            x.put(heap, 1, 2);
        }
        int[][] due = {{0, 0, 0, 0}, {0, 0, 0, 1}, {0, 0, 0, 2}, {0, 0, 1, 2}, {0, 0, 2, 2}, {0, 1, 2, 2}, {0, 2, 2, 2},
            {1, 2, 2, 2}, {2, 2, 2, 2}};
        for (int people = 0; people < due.length; people++) {
            x.sleep(0, 0, 0, people);
            CHECK.due("39 minutes for " + people, x.fetch(1, 0), 4 * people);
            for (int i = 0; i < 4; i++) {
                CHECK.due("40 number " + i + " for " + people, x.fetched(1, 0, i < 2 ? 2 : 7, i % 2), due[people][i]);
            }
        }
        x.sleep(0, 0, 0, 9);
        CHECK.due("39 nine of eight", x.fetch(1, 0), -1);
        CHECK.due("40 nine of eight", x.fetched(1, 0, 7, 1), -1);
    }
}
