/** Promises 31 to 40: other floes, loads, fetching. */
public final class GoingTest {
    private static final long ALL = 1000000000000L;
    private static final String FLOE = "floe wide 6 deep 4 people 4 days 10;";
    private static final String STORES = FLOE + "sort food gives 10 tons 2 many 3;"
            + "sort food gives 7 tons 1 many 2;sort beds gives 2 tons 3 many 2;";
    private static final String ICE = FLOE.replace("days 10", "days 2")
            + "crack down 3 odds 0 swell 0 warm 0 weight 0;crack along 2 odds 0 swell 0 warm 0 weight 0;"
            + "sort food gives 2 tons 2 many 9;sort food gives 3 tons 3 many 9;sort heat gives 1 tons 1 many 9;"
            + "fetch 3 across 7;";
    private static final Check CHECK = new Check("GoingTest");

    public static void main(String[] args) {
        alive();
        comingInOrder();
        go();
        leave();
        least();
        load();
        lasts();
        across();
        minutes();
        fetch();
        fetched();
        CHECK.finish();
    }

    private static void alive() {
        PencilLine x = Check.on(FLOE + "breaks 1000 crossing 500;other day 9 odds 50 breaks 100;");
        CHECK.due("31 on the last day", x.alive(10, 0, 0), 920250000000L);
        CHECK.due("31 near already", x.alive(10, 0, 1), 940500000000L);
        CHECK.due("31 on it", x.alive(10, 1, 1), 990000000000L);
        CHECK.due("31 two days on it", x.alive(9, 1, 1), 980100000000L);
        CHECK.due("31 it comes on its day", x.alive(9, 0, 0),
                (931095000000L + 920250000000L / 10000 * 9000) / 2);
        CHECK.due("31 not ahead of it", x.alive(8, 0, 0), x.alive(9, 0, 0) * 9 / 10);
        int[][] wrong = {{0, 0, 0}, {11, 0, 0}, {10, 2, 1}, {10, -1, 0}, {10, 0, 2}, {10, 0, -1}, {10, 1, 0},
            {-1, 0, 0}, {10, 1, 2}};
        for (int[] w : wrong) {
            CHECK.due("31 wrong", x.alive(w[0], w[1], w[2]), -2);
            CHECK.due("32 wrong", x.go(w[0], w[1], w[2]), -2);
        }
        CHECK.due("31 no floe", new PencilLine().alive(1, 0, 0), -2);
        CHECK.due("32 no floe", new PencilLine().go(1, 0, 0), -2);
        PencilLine alone = Check.on(FLOE + "breaks 9999 crossing 0;");
        CHECK.due("31 alone", alone.alive(9, 0, 0), 10000);
        CHECK.due("31 alone, cut", alone.alive(7, 0, 0), 0);
        CHECK.due("31 never beyond the floe's days", alone.alive(60, 0, 0), -2);
    }

    private static void comingInOrder() {
        PencilLine x = Check.on("floe wide 2 deep 2 people 1 days 1;breaks 777 crossing 333;"
                + "other day 1 odds 33 breaks 111;other day 1 odds 77 breaks 55;");
        long stay = 922300000000L;
        long first = 988900000000L / 10000 * 9667;
        long second = 994500000000L / 10000 * 9667;
        long with = (77 * second + 23 * first) / 100;
        long without = (77 * second + 23 * stay) / 100;
        CHECK.due("31 each for itself", x.alive(1, 0, 0), (33 * with + 67 * without) / 100);
        CHECK.due("31 one is near", x.alive(1, 0, 2), (33 * second + 67 * second) / 100);
        // small worths, so that it shows which of them is cut first
        PencilLine y = Check.on("floe wide 2 deep 2 people 1 days 3;breaks 9999 crossing 9999;"
                + "other day 1 odds 50 breaks 9990;other day 3 odds 51 breaks 9980;"
                + "other day 2 odds 49 breaks 9970;");
        Model m = new Model();
        m.days = 3;
        m.breaks = 9999;
        m.crossing = 9999;
        m.others.add(new int[] {1, 50, 9990});
        m.others.add(new int[] {3, 51, 9980});
        m.others.add(new int[] {2, 49, 9970});
        for (int day = 1; day <= 3; day++) {
            for (int seen = 0; seen < 8; seen++) {
                CHECK.due("31 cut in order", y.alive(day, 0, seen), m.morning(day, 0, seen));
            }
        }
    }

    private static void go() {
        PencilLine x = Check.on(FLOE + "breaks 1000 crossing 500;other day 9 odds 50 breaks 100;"
                + "other day 1 odds 0 breaks 100;other day 1 odds 0 breaks 50;");
        CHECK.due("32 none near", x.go(10, 0, 0), 0);
        CHECK.due("32 one is better", x.go(10, 0, 1), 1);
        CHECK.due("32 the least of equals", x.go(10, 0, 3), 1);
        CHECK.due("32 the second alone", x.go(10, 0, 2), 2);
        CHECK.due("32 the best", x.go(10, 0, 7), 3);
        CHECK.due("32 staying ahead", x.go(10, 2, 3), 2);
        CHECK.due("32 crossing costs too much", x.go(10, 1, 7), 1);
        CHECK.due("32 never to 0", x.go(1, 1, 1), 1);
        PencilLine y = Check.on(FLOE + "breaks 0 crossing 0;other day 1 odds 50 breaks 0;");
        CHECK.due("32 staying ahead of going", y.go(5, 0, 1), 0);
        PencilLine z = Check.on(FLOE + "breaks 0 crossing 0;other day 1 odds 50 breaks 9000;");
        CHECK.due("32 never back to 0", z.go(5, 1, 1), 1);
        // one may be worse for a day and better for many
        PencilLine w = Check.on(FLOE + "breaks 500 crossing 600;other day 1 odds 0 breaks 100;");
        CHECK.due("32 late it does not pay", w.go(10, 0, 1), 0);
        CHECK.due("32 early it does", w.go(9, 0, 1), 1);
    }

    private static void leave() {
        String floe = FLOE + "breaks 1000 crossing 500;";
        CHECK.due("33 none there", Check.on(floe).leave(), -1);
        CHECK.due("33 as soon as it comes", Check.on(floe + "other day 9 odds 50 breaks 100;").leave(), 9);
        CHECK.due("33 at odds 0 too", Check.on(floe + "other day 7 odds 0 breaks 100;").leave(), 7);
        CHECK.due("33 worse ones not", Check.on(floe + "other day 7 odds 9 breaks 1000;").leave(), -1);
        CHECK.due("33 behind the days", Check.on(floe + "other day 11 odds 9 breaks 0;").leave(), -1);
        CHECK.due("33 the better one later",
                Check.on(floe + "other day 3 odds 9 breaks 999;other day 4 odds 0 breaks 0;").leave(), 4);
        CHECK.due("33 no floe", new PencilLine().leave(), -2);
        CHECK.due("33 the first day", Check.on(floe + "other day 1 odds 100 breaks 0;").leave(), 1);
    }

    private static void least() {
        PencilLine x = Check.on(STORES);
        CHECK.due("34 food, one kind of sort", x.least(4, 5, 0), 4);
        CHECK.due("34 14 by the lighter", x.least(2, 7, 0), 2);
        CHECK.due("34 all there is", x.least(4, 11, 0), 8);
        CHECK.due("34 one too many", x.least(5, 9, 0), -1);
        CHECK.due("34 beds", x.least(4, 60, 1), 6);
        CHECK.due("34 beds for three", x.least(3, 60, 1), 6);
        CHECK.due("34 beds for five", x.least(5, 0, 1), -1);
        CHECK.due("34 not told", x.least(28, 60, 3), 0);
        CHECK.due("34 together", x.least(4, 5, -1), 10);
        CHECK.due("34 together, one can't be", x.least(5, 1, -1), -1);
        CHECK.due("34 nobody", x.least(0, 60, -1), 0);
        CHECK.due("34 no days", x.least(2, 0, -1), 3);
        int[][] wrong = {{-1, 0, 0}, {29, 0, 0}, {0, -1, 0}, {0, 61, 0}, {0, 0, 4}, {0, 0, -2}, {29, 0, -1}};
        for (int[] w : wrong) {
            CHECK.due("34 wrong", x.least(w[0], w[1], w[2]), -2);
        }
        CHECK.due("34 without a floe", new PencilLine().least(28, 60, -1), 0);
        CHECK.due("34 without a floe, wrong", new PencilLine().least(28, 61, -1), -2);
        PencilLine most = Check.on(FLOE + "sort food gives 14 tons 99 many 20;".repeat(6));
        CHECK.due("34 120 units", most.least(28, 60, 0), 11880);
        String full = FLOE + "sort food gives 99 tons 2 many 16;sort food gives 96 tons 1 many 1;";
        CHECK.due("34 just 1,680", Check.on(full).least(28, 60, 0), 33);
        CHECK.due("35 just 1,680", Check.on(full).load(28, 60, 0), 16);
        CHECK.due("36 just 1,680", Check.on(full).lasts(28, 33), 60);
        CHECK.due("34 1,679", Check.on(full.replace("96", "95")).least(28, 60, 0), -1);
        CHECK.due("36 1,679", Check.on(full.replace("96", "95")).lasts(28, 9999), 59);
        PencilLine heavy = Check.on(FLOE + "sort food gives 10 tons 9 many 9;sort food gives 3 tons 3 many 9;");
        CHECK.due("34 more units of less weight", heavy.least(1, 9, 0), 9);
        CHECK.due("34 ten", heavy.least(1, 10, 0), 9);
        CHECK.due("34 thirteen", heavy.least(1, 13, 0), 12);
    }

    private static void load() {
        PencilLine x = Check.on(STORES);
        CHECK.due("35 twenty, fewest of the least sort", x.load(4, 5, 0), 1);
        CHECK.due("35 twenty, the other", x.load(4, 5, 1), 2);
        CHECK.due("35 seventeen, first", x.load(17, 1, 0), 1);
        CHECK.due("35 seventeen, second", x.load(17, 1, 1), 1);
        CHECK.due("35 beds by people", x.load(4, 5, 2), 2);
        CHECK.due("35 its kind can't be", x.load(5, 1, 2), -1);
        CHECK.due("35 the other kind can", x.load(5, 1, 1), 1);
        int[][] wrong = {{-1, 0, 0}, {29, 0, 0}, {0, -1, 0}, {0, 61, 0}, {0, 0, 3}, {0, 0, -1}};
        for (int[] w : wrong) {
            CHECK.due("35 wrong", x.load(w[0], w[1], w[2]), -2);
        }
        CHECK.due("35 no floe", new PencilLine().load(1, 1, 0), -2);
        PencilLine y = Check.on(FLOE + "sort heat gives 2 tons 2 many 9;sort heat gives 1 tons 1 many 3;"
                + "sort heat gives 4 tons 4 many 1;");
        // of equals the fewest of sort 0, then of sort 1
        int[][] due = {{0, 0, 0}, {0, 1, 0}, {0, 2, 0}, {0, 3, 0}, {0, 0, 1}, {0, 1, 1}, {0, 2, 1}, {0, 3, 1},
            {1, 2, 1}, {1, 3, 1}};
        for (int people = 0; people < due.length; people++) {
            for (int sort = 0; sort < 3; sort++) {
                CHECK.due("35 fewest of the least sort", y.load(people, 0, sort), due[people][sort]);
            }
        }
    }

    private static void lasts() {
        PencilLine x = Check.on(STORES);
        CHECK.due("36 two days for ten tons", x.lasts(4, 7), 1);
        CHECK.due("36 beds alone", x.lasts(4, 6), 0);
        CHECK.due("36 not even beds", x.lasts(4, 5), -1);
        CHECK.due("36 all there is", x.lasts(4, 9999), 11);
        CHECK.due("36 beds can't be", x.lasts(5, 9999), -1);
        CHECK.due("36 nobody", x.lasts(0, 0), 60);
        int[][] wrong = {{-1, 0}, {29, 0}, {0, -1}, {0, 10000}};
        for (int[] w : wrong) {
            CHECK.due("36 wrong", x.lasts(w[0], w[1]), -2);
        }
        CHECK.due("36 no food told", Check.on(FLOE + "sort heat gives 9 tons 9 many 2;").lasts(10, 18), 60);
        CHECK.due("36 no food told, too heavy",
                Check.on(FLOE + "sort heat gives 9 tons 9 many 2;").lasts(10, 17), -1);
        CHECK.due("36 without a floe", new PencilLine().lasts(28, 0), 60);
    }

    /** Heaps 0 here, 1 beyond the first crack, 2 beyond both; all sleep at 0, 0. */
    private static PencilLine ice() {
        PencilLine x = Check.on(ICE);
        x.heap(0, 1, 0);
        x.heap(1, 4, 1);
        x.heap(2, 3, 2);
        x.put(0, 0, 1);
        x.put(1, 0, 3);
        x.put(2, 1, 4);
        x.put(2, 2, 4);
        return x;
    }

    private static void across() {
        PencilLine x = ice();
        CHECK.due("37 none open", x.across(0, 2, 0), 0);
        CHECK.due("37 both", x.across(3, 2, 0), 2);
        CHECK.due("37 one of them", x.across(2, 2, 0), 1);
        CHECK.due("37 beyond one", x.across(3, 1, 0), 1);
        CHECK.due("37 here", x.across(3, 0, 0), 0);
        x.sleep(1, 5, 3, 0);
        CHECK.due("37 from the other side", x.across(3, 0, 1), 2);
        CHECK.due("37 for a group without people", x.across(3, 1, 1), 1);
        CHECK.due("37 no heap now", x.across(3, 3, 0), -1);
        int[][] wrong = {{4, 0, 0}, {-1, 0, 0}, {0, 8, 0}, {0, -1, 0}, {0, 0, 4}, {0, 0, -1}, {4, 3, 0}};
        for (int[] w : wrong) {
            CHECK.due("37 wrong", x.across(w[0], w[1], w[2]), -2);
        }
        CHECK.due("37 no floe", new PencilLine().across(0, 0, 0), -2);
    }

    private static void minutes() {
        PencilLine x = ice();
        CHECK.due("38 five steps of 2 tons", x.minutes(0, 1, 0, 0), 30);
        CHECK.due("38 over a crack", x.minutes(1, 1, 0, 0), 37);
        CHECK.due("38 over two", x.minutes(3, 2, 1, 0), 59);
        CHECK.due("38 of a sort it has not", x.minutes(3, 2, 0, 0), 44);
        CHECK.due("38 on the piece too", x.minutes(3, 0, 2, 0), 3);
        CHECK.due("38 no heap now", x.minutes(3, 3, 0, 0), -1);
        int[][] wrong = {{4, 0, 0, 0}, {-1, 0, 0, 0}, {0, 8, 0, 0}, {0, -1, 0, 0}, {0, 0, 3, 0}, {0, 0, -1, 0},
            {0, 0, 0, 4}, {0, 0, 0, -1}, {0, 3, 3, 0}};
        for (int[] w : wrong) {
            CHECK.due("38 wrong", x.minutes(w[0], w[1], w[2], w[3]), -2);
        }
        CHECK.due("38 no floe", new PencilLine().minutes(0, 0, 0, 0), -2);
    }

    private static void fetch() {
        PencilLine x = ice();
        // food 8 less 2 here: two of 3 from heap 2 or three of 2 from heap 1; heat 4 from heap 2
        CHECK.due("39 over one crack", x.fetch(1, 0), 2 * 52 + 4 * 22);
        CHECK.due("39 all on one piece", x.fetch(0, 0), 0);
        CHECK.due("39 over the other", x.fetch(2, 0), 4 * 22);
        CHECK.due("39 over both", x.fetch(3, 0), 3 * 37 + 4 * 29);
        x.put(2, 2, 3);
        CHECK.due("39 heat can't be enough", x.fetch(3, 0), -1);
        CHECK.due("39 here it is too little", x.fetch(0, 0), -1);
        x.sleep(0, 0, 0, 3);
        CHECK.due("39 for three", x.fetch(3, 0), 2 * 37 + 3 * 29);
        x.sleep(1, 5, 3, 1);
        CHECK.due("39 for one there, who has all", x.fetch(3, 1), 0);
        CHECK.due("39 for a group without people where others are", x.fetch(3, 2), 2 * 37 + 3 * 29);
        x.sleep(2, 5, 0, 0);
        CHECK.due("39 for nobody", x.fetch(3, 2), 0);
        CHECK.due("39 no set", x.fetch(4, 0), -2);
        CHECK.due("39 no set", x.fetch(-1, 0), -2);
        CHECK.due("39 no group", x.fetch(0, 4), -2);
        CHECK.due("39 no group", x.fetch(0, -1), -2);
        CHECK.due("39 no floe", new PencilLine().fetch(0, 0), -2);
        CHECK.due("39 nothing told", Check.on(FLOE).fetch(0, 0), 0);
    }

    private static void fetched() {
        PencilLine x = ice();
        CHECK.due("40 from heap 1", x.fetched(3, 0, 1, 0), 3);
        CHECK.due("40 none from heap 2", x.fetched(3, 0, 2, 1), 0);
        CHECK.due("40 heat", x.fetched(1, 0, 2, 2), 4);
        CHECK.due("40 from heap 2", x.fetched(1, 0, 2, 1), 2);
        CHECK.due("40 0 from a heap that is there", x.fetched(1, 0, 0, 0), 0);
        CHECK.due("40 0 from none", x.fetched(1, 0, 7, 0), 0);
        CHECK.due("40 of a sort it has not", x.fetched(1, 0, 1, 1), 0);
        x.put(2, 2, 3);
        CHECK.due("40 heat can't be", x.fetched(1, 0, 2, 2), -1);
        CHECK.due("40 heat can't be, no such heap now", x.fetched(1, 0, 7, 2), -1);
        CHECK.due("40 food can", x.fetched(3, 0, 1, 0), 3);
        int[][] wrong = {{4, 0, 0, 0}, {-1, 0, 0, 0}, {0, 4, 0, 0}, {0, -1, 0, 0}, {0, 0, 8, 0}, {0, 0, -1, 0},
            {0, 0, 0, 3}, {0, 0, 0, -1}, {1, 0, 2, 3}};
        for (int[] w : wrong) {
            CHECK.due("40 wrong", x.fetched(w[0], w[1], w[2], w[3]), -2);
        }
        CHECK.due("40 no floe", new PencilLine().fetched(0, 0, 0, 0), -2);
        // equal minutes: the fewest from the first heap, there of its first sort
        PencilLine y = Check.on(FLOE.replace("days 10", "days 1")
                + "crack down 3 odds 0 swell 0 warm 0 weight 0;sort food gives 1 tons 1 many 9;"
                + "sort food gives 2 tons 2 many 9;fetch 1 across 0;");
        y.heap(3, 3, 0);
        y.heap(5, 3, 0);
        y.put(3, 0, 4);
        y.put(3, 1, 1);
        y.put(5, 0, 1);
        y.put(5, 1, 1);
        int[] due = {0, 1, 1, 1};
        CHECK.due("40 minutes of equals", y.fetch(1, 0), 12);
        for (int i = 0; i < 4; i++) {
            CHECK.due("40 equals " + i, y.fetched(1, 0, i < 2 ? 3 : 5, i % 2), i == 2 ? 0 : due[i]);
        }
        // nothing costs anything: still the fewest
        PencilLine z = Check.on(FLOE.replace("days 10", "days 1")
                + "crack down 3 odds 0 swell 0 warm 0 weight 0;sort food gives 1 tons 1 many 9;fetch 0 across 0;");
        z.heap(0, 5, 0);
        z.heap(1, 5, 0);
        z.put(0, 0, 4);
        z.put(1, 0, 3);
        CHECK.due("40 free", z.fetch(1, 0), 0);
        CHECK.due("40 free, first", z.fetched(1, 0, 0, 0), 1);
        CHECK.due("40 free, second", z.fetched(1, 0, 1, 0), 3);
    }
}
