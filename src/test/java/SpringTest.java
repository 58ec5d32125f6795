/** Promises 43 to 56: land, cracks learned, springs, counts, images and slots. */
public final class SpringTest {
    private static final long ALL = 1000000000000L;
    private static final String FLOE = "floe wide 6 deep 4 people 4 days 10;";
    private static final String TWO = FLOE + "crack down 3 odds 500 swell 99 warm 99 weight 0;"
            + "crack along 2 odds 100 swell 9 warm 9 weight 10;sort food gives 40 tons 20 many 2;";
    private static final Check CHECK = new Check("SpringTest");

    public static void main(String[] args) {
        miles();
        boats();
        saw();
        pass();
        seam();
        run();
        struck();
        springs();
        count();
        keep();
        back();
        row();
        write();
        paste();
        CHECK.finish();
    }

    private static void miles() {
        PencilLine x = Check.on(FLOE + "drift 40 land 3;");
        CHECK.due("43 at first", x.miles(0, 3), ALL);
        CHECK.due("43 at first elsewhere", x.miles(0, 2), 0);
        CHECK.due("43 nearer", x.miles(1, 1), 400000000000L);
        CHECK.due("43 farther", x.miles(1, 4), 600000000000L);
        CHECK.due("43 not there now", x.miles(1, 3), 0);
        CHECK.due("43 0 at least", x.miles(2, 0), 160000000000L);
        CHECK.due("43 to and fro", x.miles(2, 2), 480000000000L);
        CHECK.due("43 farther twice", x.miles(2, 5), 360000000000L);
        CHECK.due("43 at 0 it stays", x.miles(3, 0), 160000000000L + 192000000000L);
        PencilLine far = Check.on(FLOE + "drift 0 land 60;");
        CHECK.due("43 far", far.miles(39, 99), ALL);
        CHECK.due("43 not nearer", far.miles(38, 98), ALL);
        CHECK.due("43 99 at most", far.miles(60, 99), ALL);
        PencilLine cut = Check.on(FLOE + "drift 1 land 60;");
        CHECK.due("43 cut", cut.miles(7, 46), 0);
        CHECK.due("43 1 of 100 six times", cut.miles(6, 48), 1);
        PencilLine there = Check.on(FLOE + "drift 0 land 0;");
        CHECK.due("43 there", there.miles(60, 0), ALL);
        int[][] wrong = {{-1, 0}, {61, 0}, {0, -1}, {0, 100}};
        for (int[] w : wrong) {
            CHECK.due("43 wrong", x.miles(w[0], w[1]), -2);
        }
        CHECK.due("43 no floe", new PencilLine().miles(0, 20), -2);
    }

    private static void boats() {
        PencilLine x = Check.on(FLOE + "drift 40 land 3;");
        CHECK.due("44 at once", x.boats(3, 1000), 0);
        CHECK.due("44 behind a day", x.boats(2, 400), 1);
        CHECK.due("44 behind two", x.boats(2, 401), 2);
        CHECK.due("44 so many or more", x.boats(2, 640), 2);
        CHECK.due("44 at land", x.boats(0, 160), 2);
        CHECK.due("44 at land, more", x.boats(0, 161), 3);
        CHECK.due("44 never", x.boats(2, 1000), -1);
        CHECK.due("44 miles no more than", x.boats(99, 1), 0);
        int[][] wrong = {{-1, 5}, {100, 5}, {5, 0}, {5, 1001}, {5, -1}};
        for (int[] w : wrong) {
            CHECK.due("44 wrong", x.boats(w[0], w[1]), -2);
        }
        CHECK.due("44 no floe", new PencilLine().boats(20, 500), -2);
        PencilLine late = Check.on(FLOE + "drift 0 land 39;");
        CHECK.due("44 never nearer", late.boats(38, 1), -1);
        // within 30 miles more come than go, so the last day holds the most
        PencilLine half = Check.on(FLOE + "drift 50 land 60;");
        long[] within = new long[61];
        for (int day = 59; day <= 60; day++) {
            for (int miles = 0; miles <= 30; miles++) {
                within[day] += half.miles(day, miles);
            }
        }
        int thousandths = (int) (within[60] / 1000000000L);
        CHECK.holds("44 the last day is the most", within[59] < thousandths * 1000000000L);
        CHECK.due("44 behind day 60", half.boats(30, thousandths), 60);
        CHECK.due("44 behind none", half.boats(30, thousandths + 1), -1);
        PencilLine last = Check.on(FLOE + "drift 100 land 60;");
        CHECK.due("44 behind 30", last.boats(0, 1000), 30);
        PencilLine sixty = Check.on(FLOE + "drift 51 land 60;");
        CHECK.holds("44 behind the floe's days too", sixty.boats(0, 1) > 10);
    }

    private static void saw() {
        PencilLine x = Check.on(TWO);
        for (int i = 1; i <= 99; i++) {
            CHECK.due("45 saw " + i, x.saw(1), i);
        }
        CHECK.due("45 99 times", x.saw(1), -3);
        CHECK.due("45 still", x.saw(1), -3);
        CHECK.due("45 each for itself", x.saw(0), 1);
        CHECK.due("45 not more", x.seam(1), (100 * 100 + 990000) / 100);
        CHECK.due("45 no crack", x.saw(2), -2);
        CHECK.due("45 no crack", x.saw(-1), -2);
        CHECK.due("45 no floe", new PencilLine().saw(0), -2);
        Check.floe(x, TWO);
        CHECK.due("45 nothing was seen", x.saw(1), 1);
    }

    private static void pass() {
        PencilLine x = Check.on(TWO);
        CHECK.due("46 none", x.pass(0), 0);
        for (int i = 1; i <= 101; i++) {
            CHECK.due("46 pass " + i, x.pass(99), 99 * i);
        }
        CHECK.due("46 9,999 in all", x.count(11), 9999);
        CHECK.due("46 one more", x.pass(1), -2);
        CHECK.due("46 none more", x.pass(0), 9999);
        CHECK.due("46 below", x.pass(-1), -2);
        Check.floe(x, TWO);
        CHECK.due("46 anew", x.pass(98), 98);
        CHECK.due("46 above", x.pass(100), -2);
        CHECK.due("46 stays", x.count(11), 98);
        CHECK.due("46 no floe", new PencilLine().pass(1), -2);
    }

    private static void seam() {
        PencilLine x = Check.on(TWO + "sea swell 2 warm 1;");
        CHECK.due("47 odds alone", x.seam(1), 127);
        x.saw(1);
        CHECK.due("47 seen once", x.seam(1), 227);
        x.pass(50);
        CHECK.due("47 hours", x.seam(1), 151);
        CHECK.due("47 the other", x.seam(0), 79700 / 150);
        x.heap(0, 0, 1);
        x.put(0, 0, 2);
        CHECK.due("47 by weight", x.seam(1), 23100 / 150);
        CHECK.due("47 no crack", x.seam(2), -2);
        CHECK.due("47 no crack", x.seam(-1), -2);
        CHECK.due("47 no floe", new PencilLine().seam(0), -2);
    }

    /** Two cracks that open always and once in a while, worked by hand from the seeds 0 and 5. */
    private static void run() {
        PencilLine x = Check.on(TWO + "shuts 50;sea swell 9 warm 9;");
        // seed 0: 12345 (0), 1406932606 (21468: 1468), 654583775 (9988), 1449466924 (22117: 2117)
        CHECK.due("48 odds", x.odds(0), 2282);
        CHECK.due("48 odds", x.odds(1), 262);
        CHECK.due("48 no hours", x.run(0, 0), 0);
        CHECK.due("48 an hour", x.run(0, 1), 1);
        CHECK.due("48 it stays open", x.count(8), 1);
        // now crack 0 is open and shuts by 0, the second draw is 1468 again
        CHECK.due("48 it shuts", x.run(0, 1), 0);
        // second hour: 9988 does not shut it, 2117 opens nothing
        CHECK.due("48 two hours", x.run(0, 2), 1);
        int[][] wrong = {{-1, 1}, {2000000001, 1}, {0, -1}, {0, 100}};
        for (int[] w : wrong) {
            CHECK.due("48 wrong", x.run(w[0], w[1]), -2);
        }
        CHECK.due("48 stays", x.count(8), 1);
        CHECK.due("48 no floe", new PencilLine().run(0, 0), -2);
        Model m = new Model();
        m.wide = 6;
        m.deep = 4;
        m.people = 4;
        m.days = 10;
        m.swell = 9;
        m.warm = 9;
        m.shuts = 50;
        m.cracks.add(new int[] {0, 3, 500, 99, 99, 0, 0});
        m.cracks.add(new int[] {1, 2, 100, 9, 9, 10, 0});
        for (int seed : new int[] {5, 123456789, 2000000000}) {
            for (int open = 0; open < 4; open++) {
                x.open(open);
                m.open = open;
                CHECK.due("48 a long spring", x.run(seed, 99), m.spring(seed, 99)[0]);
            }
        }
        PencilLine none = Check.on(FLOE);
        CHECK.due("48 no cracks", none.run(1, 99), 0);
        draws();
    }

    /** One crack opens below its odds alone, and shuts below 100 times shuts. */
    private static void draws() {
        int opened = 0;
        int shut = 0;
        for (int seed = 0; opened < 40 || shut < 10; seed++) {
            long raw = java.math.BigInteger.valueOf(1103515245).multiply(java.math.BigInteger.valueOf(seed * 9973L))
                    .add(java.math.BigInteger.valueOf(12345)).mod(java.math.BigInteger.valueOf(2147483648L))
                    .longValue() / 65536;
            int draw = (int) (raw % 10000);
            if (draw < 500 && opened < 40) {
                CHECK.due("48 at its odds", oneCrack(draw, 0).run(seed * 9973, 1), 0);
                CHECK.due("48 below its odds", oneCrack(draw + 1, 0).run(seed * 9973, 1), 1);
                opened++;
            }
            if (draw % 100 > 97 || draw % 100 == 0) {
                PencilLine x = oneCrack(500, draw / 100);
                x.open(1);
                CHECK.due("48 not below", x.run(seed * 9973, 1), 1);
                PencilLine y = oneCrack(500, draw / 100 + 1);
                y.open(1);
                CHECK.due("48 below", y.run(seed * 9973, 1), 0);
                shut++;
            }
        }
    }

    private static PencilLine oneCrack(int odds, int shuts) {
        return Check.on(FLOE + "crack down 1 odds " + odds + " swell 0 warm 0 weight 0;shuts " + shuts + ";");
    }

    private static void struck() {
        PencilLine x = Check.on(TWO + "sea swell 9 warm 9;");
        CHECK.due("49 none since", x.struck(), 0);
        x.heap(0, 5, 0);
        x.put(0, 0, 1);
        x.run(0, 1);
        CHECK.due("49 behind the first", x.struck(), 1);
        x.open(0);
        x.sleep(0, 5, 0, 4);
        CHECK.due("49 as it was then", x.struck(), 1);
        x.run(0, 99);
        CHECK.due("49 with the heap", x.struck(), 0);
        x.run(-1, 9);
        CHECK.due("49 a run that was none", x.struck(), 0);
        x.sleep(0, 0, 0, 4);
        x.open(1);
        x.run(0, 0);
        CHECK.due("49 no hour, none behind", x.struck(), 0);
        x.run(7, 5);
        CHECK.due("49 open and stays so", x.struck(), 1);
        Check.floe(x, "floe");
        CHECK.due("49 a fault", x.struck(), 1);
        x.keep(0);
        x.back(0);
        CHECK.due("49 stays over back", x.struck(), 1);
        Check.floe(x, TWO);
        CHECK.due("49 none since floe", x.struck(), 0);
        CHECK.due("49 no floe", new PencilLine().struck(), 0);
    }

    private static void springs() {
        PencilLine x = Check.on(TWO + "sea swell 9 warm 9;");
        x.heap(0, 5, 0);
        x.put(0, 0, 1);
        int bad = 0;
        for (int seed = 100; seed < 160; seed++) {
            x.open(0);
            x.run(seed, 3);
            bad += x.struck() > 0 ? 1 : 0;
        }
        x.open(0);
        CHECK.holds("50 some, not all", bad > 0 && bad < 60);
        x.run(0, 0);
        CHECK.due("50 sixty", x.springs(100, 60, 3), bad);
        CHECK.due("50 all stays", x.count(8), 0);
        CHECK.due("50 struck stays", x.struck(), 0);
        CHECK.due("50 one", x.springs(0, 1, 1), 1);
        CHECK.due("50 no hours", x.springs(0, 60, 0), 0);
        x.springs(2000000000, 60, 99);
        int[][] wrong = {{-1, 1, 1}, {2000000001, 1, 1}, {0, 0, 1}, {0, 61, 1}, {0, 1, -1}, {0, 1, 100}};
        for (int[] w : wrong) {
            CHECK.due("50 wrong", x.springs(w[0], w[1], w[2]), -2);
        }
        CHECK.due("50 no floe", new PencilLine().springs(0, 1, 1), -2);
        // the seeds behind the greatest one are drawn from too
        Model m = new Model();
        m.wide = 6;
        m.deep = 4;
        m.cracks.add(new int[] {0, 3, 300, 0, 0, 0, 0});
        m.sorts.add(new int[] {0, 40, 1, 1});
        m.days = 10;
        m.groups[0][2] = 4;
        m.heaps.put(0, new int[] {5, 0});
        m.units[0][0] = 1;
        PencilLine y = Check.on(FLOE + "crack down 3 odds 300 swell 0 warm 0 weight 0;"
                + "sort food gives 40 tons 1 many 1;");
        y.heap(0, 5, 0);
        y.put(0, 0, 1);
        int due = 0;
        for (int i = 0; i < 60; i++) {
            due += m.spring(2000000000L + i, 9)[1] > 0 ? 1 : 0;
        }
        CHECK.due("50 seeds beyond", y.springs(2000000000, 60, 9), due);
    }

    private static void count() {
        PencilLine x = Check.on(TWO + "other day 1 odds 1 breaks 1;sees 3;");
        x.heap(3, 1, 1);
        x.heap(5, 1, 1);
        x.open(2);
        x.pass(12);
        x.sleep(0, 0, 0, 3);
        x.row(1, 0, 0);
        x.row(3, 1, 5);
        x.feed(0, 0, 0, 0, 0);
        int[] due = {6, 4, 4, 10, 2, 1, 1, 2, 2, 6, 20, 12, 3, 2};
        for (int what = 0; what < due.length; what++) {
            CHECK.due("51 count(" + what + ")", x.count(what), due[what]);
        }
        CHECK.due("51 others", x.count(14), -1);
        CHECK.due("51 others", x.count(-1), -1);
        CHECK.due("51 others", x.count(Integer.MAX_VALUE), -1);
    }

    private static PencilLine lived() {
        PencilLine x = Check.on(TWO + "shuts 10;sea swell 1 warm 2;sees 9;drift 9 land 9;breaks 9 crossing 9;"
                + "other day 3 odds 9 breaks 8;");
        x.heap(3, 1, 2);
        x.put(3, 0, 2);
        x.sleep(0, 2, 3, 1);
        x.sleep(2, 5, 3, 2);
        x.open(2);
        x.saw(1);
        x.pass(7);
        return x;
    }

    private static long[] told(PencilLine x) {
        long[] told = new long[48];
        int n = 0;
        for (int what = 0; what <= 12; what++) {
            told[n++] = what == 10 ? 0 : x.count(what);
        }
        for (int heap = 0; heap < 8; heap++) {
            told[n++] = x.lies(heap, 0) + 100L * x.lies(heap, 1) + 10000L * x.lies(heap, 3);
        }
        told[n++] = x.seam(0);
        told[n++] = x.seam(1);
        told[n++] = x.watch(3);
        told[n++] = x.miles(3, 9);
        told[n++] = x.alive(1, 0, 0);
        told[n++] = x.lacks(3, 0);
        told[n++] = x.lost(9);
        told[n++] = x.part(1);
        told[n++] = x.fetch(3, 2);
        told[n++] = x.where(1);
        return told;
    }

    private static void alike(String call, PencilLine x, long[] due) {
        long[] now = told(x);
        for (int i = 0; i < due.length; i++) {
            CHECK.due(call + ", number " + i, now[i], due[i]);
        }
    }

    private static void keep() {
        PencilLine x = lived();
        long[] first = told(x);
        x.row(0, 0, 3);
        CHECK.due("52 keep", x.keep(0), 0);
        CHECK.due("52 no image", x.keep(3), -2);
        CHECK.due("52 no image", x.keep(-1), -2);
        alike("52 all stays", x, first);
        x.heap(3, -1, 0);
        x.heap(4, 5, 3);
        CHECK.due("52 another", x.keep(2), 0);
        long[] second = told(x);
        Check.floe(x, "floe wide 2 deep 3 people 9 days 9;sees 1;");
        CHECK.due("53 back", x.back(0), 0);
        alike("53 as the first has it", x, first);
        x.back(2);
        alike("53 as the second has it", x, second);
        x.keep(0);
        x.heap(4, -1, 0);
        x.back(0);
        alike("52 in place", x, second);
    }

    private static void back() {
        PencilLine x = lived();
        CHECK.due("53 nothing", x.back(1), -6);
        CHECK.due("53 no image", x.back(3), -2);
        CHECK.due("53 no image", x.back(-1), -2);
        x.keep(1);
        long[] due = told(x);
        for (int i = 0; i < 2; i++) {
            x.open(0);
            x.saw(0);
            x.saw(1);
            x.pass(9);
            x.sleep(2, 0, 0, 0);
            x.put(3, 0, 0);
            x.heap(3, 0, 0);
            x.heap(0, 5, 3);
            x.row(2, 0, 1);
            x.end(0);
            x.feed(1, 1, 1, 1, 1);
            CHECK.due("53 back " + i, x.back(1), 0);
            alike("53 as kept " + i, x, due);
            CHECK.due("53 slots stay", x.count(13), 1);
            CHECK.due("53 the tape stays", x.count(10), 20);
        }
        x.floe();
        CHECK.due("53 fault", x.fault(0), 1);
        x.back(1);
        CHECK.due("53 the fault stays", x.fault(0), 1);
        PencilLine none = new PencilLine();
        CHECK.due("53 nothing either", none.back(0), -6);
        none.keep(0);
        Check.floe(none, TWO);
        CHECK.due("53 back to no floe", none.back(0), 0);
        CHECK.due("53 no floe", none.pieces(0), -2);
        CHECK.due("53 no people", none.count(12), 0);
    }

    private static void row() {
        PencilLine x = Check.on(TWO);
        CHECK.due("54 row", x.row(0, 0, 60), 0);
        CHECK.due("54 all 0", x.judge(0), 0);
        x.sleep(0, 0, 0, 0);
        CHECK.due("54 so many", x.judge(0), 60);
        for (int i = 0; i < 3; i++) {
            x.write(0, i, -1);
        }
        CHECK.due("54 in place", x.row(0, 3, 3), 0);
        CHECK.due("54 all 0 again", x.judge(0), 3);
        CHECK.due("54 no numbers", x.row(3, 1, 0), 0);
        CHECK.due("54 it has a row", x.count(13), 2);
        CHECK.due("54 below", x.row(0, 0, -1), -3);
        CHECK.due("54 the slot stays", x.judge(0), 3);
        CHECK.due("54 below, nothing", x.row(1, 0, -1), -3);
        CHECK.due("54 still nothing", x.judge(1), -6);
        int[][] wrong = {{-1, 0, 1}, {4, 0, 1}, {0, -1, 1}, {0, 4, 1}, {0, 0, 61}, {4, 0, -1}, {0, 4, -1}};
        for (int[] w : wrong) {
            CHECK.due("54 wrong", x.row(w[0], w[1], w[2]), -2);
        }
        CHECK.due("54 stays", x.judge(0), 3);
    }

    private static void write() {
        // with seven cracks each of 0 .. 127 is a set, and where nobody sleeps each is enough
        PencilLine x = Check.on(FLOE + "crack down 3 odds 1 swell 1 warm 1 weight 1;".repeat(7));
        CHECK.due("55 nothing", x.write(0, 0, 1), -6);
        CHECK.due("55 no slot", x.write(4, 0, 1), -2);
        CHECK.due("55 no slot", x.write(-1, 0, 1), -2);
        x.row(0, 0, 2);
        CHECK.due("55 no number", x.write(0, 2, 1), -7);
        CHECK.due("55 no number", x.write(0, -1, 1), -7);
        CHECK.due("55 write", x.write(0, 0, 127), 0);
        CHECK.due("55 written", x.judge(0), 2);
        x.write(0, 0, 128);
        CHECK.due("55 above the sets", x.judge(0), 0);
        long[] top = {1L << 8, 1L << 16, 1L << 32, Long.MIN_VALUE};
        for (int width = 0; width < 4; width++) {
            x.row(1, width, 1);
            for (int bits = 0; bits < 4; bits++) {
                x.write(1, 0, top[bits] + 5);
                boolean cut = bits == 3 ? width < 3 : bits >= width;
                CHECK.due("55 width " + width + " bits " + bits, x.judge(1), cut ? 1 : 0);
            }
            x.write(1, 0, (top[width] >> 1) + 1);
            CHECK.due("55 a sign " + width, x.judge(1), 0);
        }
        x.row(2, 2, 0);
        CHECK.due("55 no number of none", x.write(2, 0, 1), -7);
    }

    private static void paste() {
        PencilLine x = Check.on(FLOE + "crack down 3 odds 1 swell 1 warm 1 weight 1;".repeat(7));
        for (int slot = 0; slot < 2; slot++) {
            x.row(slot, 1, 5);
        }
        CHECK.due("56 one has nothing", x.paste(0, 0, 2, 0, 0), -6);
        CHECK.due("56 the other has", x.paste(2, 0, 0, 0, 0), -6);
        int[][] none = {{-1, 0}, {4, 0}, {0, -1}, {0, 4}, {4, 2}, {2, 4}};
        for (int[] n : none) {
            CHECK.due("56 no slot", x.paste(n[0], 0, n[1], 0, 1), -2);
        }
        x.row(2, 2, 5);
        CHECK.due("56 widths", x.paste(0, 0, 2, 0, 1), -8);
        CHECK.due("56 widths ahead of places", x.paste(0, 9, 2, 0, 1), -8);
        int[][] beyond = {{0, 0, 6}, {1, 0, 5}, {0, 1, 5}, {-1, 0, 1}, {0, -1, 1}, {0, 0, -1}, {6, 0, 0}, {0, 6, 0},
            {-1, 0, 0}, {0, -1, 0}, {5, 0, 1}, {0, 5, 1}, {1, 1, Integer.MAX_VALUE}, {Integer.MAX_VALUE, 0, 1},
            {0, Integer.MAX_VALUE, Integer.MAX_VALUE}, {1, 0, Integer.MIN_VALUE}};
        for (int[] b : beyond) {
            CHECK.due("56 beyond", x.paste(0, b[0], 1, b[1], b[2]), -7);
        }
        CHECK.due("56 none at the end", x.paste(0, 5, 1, 5, 0), 0);
        CHECK.due("56 all", x.paste(0, 0, 1, 0, 5), 0);
        // -1 is no set: judge tells where the first stands
        x.write(0, 2, -1);
        CHECK.due("56 paste", x.paste(0, 2, 1, 3, 2), 0);
        CHECK.due("56 is put", x.judge(1), 3);
        CHECK.due("56 one stays", x.judge(0), 2);
        x.paste(0, 0, 1, 2, 2);
        CHECK.due("56 over it", x.judge(1), 5);
        // its own, as they were: from 0 0 -1 0 0 on behind itself, and ahead of itself
        CHECK.due("56 onto itself", x.paste(0, 1, 0, 2, 3), 0);
        CHECK.due("56 moved up", x.judge(0), 3);
        x.write(0, 3, 0);
        CHECK.due("56 once only", x.judge(0), 5);
        x.write(0, 2, -1);
        CHECK.due("56 onto itself", x.paste(0, 1, 0, 0, 3), 0);
        CHECK.due("56 moved down", x.judge(0), 1);
        x.write(0, 1, 0);
        CHECK.due("56 the old one is over", x.judge(0), 5);
    }
}
