/** The boundaries of promises 43 to 56: land, cracks learned, springs, counts, images, slots. */
public final class EdgeSpringTest {
    private static final long ALL = 1000000000000L;
    private static final int LEAST = Integer.MIN_VALUE;
    private static final int MOST = Integer.MAX_VALUE;
    private static final String SMALL = "floe wide 2 deep 2 people 1 days 1;";
    private static final String SEVEN = SMALL + "crack down 1 odds 0 swell 0 warm 0 weight 0;".repeat(7);
    private static final Check CHECK = new Check("EdgeSpringTest");
    private static final Whole WHOLE = new Whole(CHECK);

    public static void main(String[] args) {
        milesRefused();
        milesNear();
        milesFar();
        milesCut();
        boatsRefused();
        boatsJust();
        boatsDays();
        boatsOnePart();
        sawRefused();
        sawTimes();
        passRefused();
        passHours();
        seamCut();
        runRefused();
        runEnds();
        runDraws();
        struckHours();
        struckStays();
        springsRefused();
        springsEnds();
        countRefused();
        countEach();
        keepRefused();
        keepAlone();
        backRefused();
        backWhole();
        rowRefused();
        rowNumbers();
        rowInPlace();
        writeRefused();
        writeNumbers();
        writeCut();
        pasteRefused();
        pasteOrder();
        pasteEnds();
        pasteOntoItself();
        pasteWidths();
        CHECK.finish();
    }

    // ---- 43 miles, 44 boats ----

    private static void milesRefused() {
        int[][] wrong = {{-1, 0}, {61, 0}, {0, -1}, {0, 100}, {LEAST, 0}, {MOST, 0}, {0, LEAST}, {0, MOST}, {61, 100}};
        for (int[] w : wrong) {
            WHOLE.stays("43 miles(" + w[0] + ", " + w[1] + ")", -2, x -> x.miles(w[0], w[1]));
            WHOLE.staysNew("43 miles(" + w[0] + ", " + w[1] + ")", -2, x -> x.miles(w[0], w[1]));
        }
        WHOLE.stays("43 miles(0, 9)", ALL, x -> x.miles(0, 9));
        WHOLE.stays("43 miles(0, 0)", 0, x -> x.miles(0, 0));
        WHOLE.stays("43 miles(0, 99)", 0, x -> x.miles(0, 99));
        WHOLE.asks("43 miles(60, 0)", x -> x.miles(60, 0));
        WHOLE.asks("43 miles(60, 99)", x -> x.miles(60, 99));
        PencilLine x = Whole.lived();
        long all = 0;
        for (int miles = 0; miles <= 99; miles++) {
            all += x.miles(60, miles);
        }
        CHECK.due("43 no part is lost in 60 days", all, ALL);
    }

    /** 2 nearer, 0 at least, and there it stays. */
    private static void milesNear() {
        for (int land = 0; land <= 5; land++) {
            PencilLine x = Check.on(SMALL + "drift 100 land " + land + ";");
            CHECK.due("43 at first", x.miles(0, land), ALL);
            CHECK.due("43 a day from " + land, x.miles(1, Math.max(0, land - 2)), ALL);
            CHECK.due("43 two days from " + land, x.miles(2, Math.max(0, land - 4)), ALL);
            CHECK.due("43 60 days from " + land, x.miles(60, 0), ALL);
        }
        PencilLine stays = Check.on(SMALL + "drift 0 land 0;");
        CHECK.due("43 at 0 it stays, drift 0", stays.miles(60, 0), ALL);
        CHECK.due("43 none goes", stays.miles(60, 1), 0);
        PencilLine one = Check.on(SMALL + "drift 50 land 1;");
        CHECK.due("43 half is there", one.miles(1, 0), ALL / 2);
        CHECK.due("43 half is at 2", one.miles(1, 2), ALL / 2);
        CHECK.due("43 then three quarters", one.miles(2, 0), ALL / 4 * 3);
        CHECK.due("43 a quarter at 3", one.miles(2, 3), ALL / 4);
    }

    /** 1 farther, 99 at most. */
    private static void milesFar() {
        PencilLine x = Check.on(SMALL + "drift 0 land 60;");
        for (int day : new int[] {0, 1, 38, 39, 40, 59, 60}) {
            int at = Math.min(99, 60 + day);
            CHECK.due("43 behind day " + day, x.miles(day, at), ALL);
            CHECK.due("43 none nearer behind day " + day, x.miles(day, at - 1), 0);
        }
        PencilLine y = Check.on(SMALL + "drift 1 land 60;");
        // behind 39 days at 99, or 3 nearer by each day that drifted to land; at 99 it does not go farther
        long there = ALL;
        for (int day = 0; day < 39; day++) {
            there -= there / 100;
        }
        CHECK.due("43 at 99", y.miles(39, 99), there);
        CHECK.due("43 not at 98", y.miles(39, 98), 0);
        long at96 = y.miles(39, 96);
        CHECK.due("43 from 99 and from 96 to 97", y.miles(40, 97), there / 100 + at96 - at96 / 100);
        CHECK.due("43 at 99 it stays", y.miles(40, 99), there - there / 100);
        CHECK.due("43 never at 100", y.miles(60, 100), -2);
    }

    private static void milesCut() {
        PencilLine x = Check.on(SMALL + "drift 1 land 60;");
        long part = ALL;
        for (int day = 0; day <= 7; day++) {
            CHECK.due("43 a hundredth, cut, " + day, x.miles(day, 60 - 2 * day), part);
            part /= 100;
        }
        CHECK.due("43 what is cut is farther", x.miles(1, 61), ALL - ALL / 100);
    }

    private static void boatsRefused() {
        int[][] wrong = {{-1, 1}, {100, 1}, {0, 0}, {0, 1001}, {0, -1}, {LEAST, 1}, {MOST, 1}, {0, LEAST}, {0, MOST},
            {100, 0}};
        for (int[] w : wrong) {
            WHOLE.stays("44 boats(" + w[0] + ", " + w[1] + ")", -2, x -> x.boats(w[0], w[1]));
            WHOLE.staysNew("44 boats(" + w[0] + ", " + w[1] + ")", -2, x -> x.boats(w[0], w[1]));
        }
        WHOLE.stays("44 boats(99, 1000)", 0, x -> x.boats(99, 1000));
        WHOLE.stays("44 boats(99, 1)", 0, x -> x.boats(99, 1));
        WHOLE.asks("44 boats(0, 1)", x -> x.boats(0, 1));
        WHOLE.asks("44 boats(0, 1000)", x -> x.boats(0, 1000));
    }

    private static void boatsJust() {
        // lived: drift 60 from 9: 7 by 600, then 5 by 360 and 8 by 240 and 240
        int[][] due = {{9, 1000, 0}, {8, 1, 1}, {8, 600, 1}, {8, 601, 2}, {7, 600, 1}, {7, 601, 3}, {6, 360, 2}, {5, 360, 2}};
        for (int[] d : due) {
            WHOLE.stays("44 boats(" + d[0] + ", " + d[1] + ")", d[2], x -> x.boats(d[0], d[1]));
        }
        PencilLine there = Check.on(SMALL + "drift 0 land 0;");
        CHECK.due("44 there at once", there.boats(0, 1000), 0);
    }

    private static void boatsDays() {
        PencilLine x = Check.on(SMALL + "drift 100 land 60;");
        CHECK.due("44 behind day 30", x.boats(0, 1000), 30);
        CHECK.due("44 behind day 29", x.boats(2, 1000), 29);
        CHECK.due("44 1 mile is not 2", x.boats(1, 1000), 30);
        PencilLine away = Check.on(SMALL + "drift 0 land 60;");
        CHECK.due("44 never nearer", away.boats(59, 1), -1);
        CHECK.due("44 60 it was", away.boats(60, 1000), 0);
        // day 60 is asked, a 61st is not: the parts within 30 miles grow day by day
        PencilLine half = Check.on(SMALL + "drift 50 land 60;");
        long within = 0;
        for (int miles = 0; miles <= 30; miles++) {
            within += half.miles(60, miles);
        }
        int most = (int) (within / 1000000000L);
        CHECK.due("44 the most is behind day 60", half.boats(30, most), 60);
        CHECK.due("44 more is behind none", half.boats(30, most + 1), -1);
        // 0.8507 behind day 59, 0.8603 behind day 60, 0.8747 behind a 61st
        PencilLine late = Check.on(SMALL + "drift 50 land 20;");
        CHECK.due("44 day 60 is the last", late.boats(0, 860), 60);
        CHECK.due("44 behind a 61st is behind none", late.boats(0, 861), -1);
        CHECK.due("44 nor behind it a little more", late.boats(0, 874), -1);
    }

    /** Behind day 17 one part of 10^12 is missing to a half: that is not so many, or more. */
    private static void boatsOnePart() {
        PencilLine x = Check.on(SMALL + "drift 50 land 17;");
        long[] within = new long[21];
        int first = -1;
        for (int day = 0; day <= 20; day++) {
            for (int miles = 0; miles <= 7; miles++) {
                within[day] += x.miles(day, miles);
            }
            first = first < 0 && within[day] >= ALL / 2 ? day : first;
        }
        CHECK.due("43 one part less than a half", within[17], ALL / 2 - 1);
        CHECK.holds("44 then it is more", first > 17);
        CHECK.due("44 not behind day 17", x.boats(7, 500), first);
        CHECK.due("44 one of 1,000 less is", x.boats(7, 499), 17);
    }

    // ---- 45 saw, 46 pass, 47 seam ----

    private static void sawRefused() {
        for (int crack : new int[] {-1, 3, 7, LEAST, MOST}) {
            WHOLE.stays("45 saw(" + crack + ")", -2, x -> x.saw(crack));
        }
        WHOLE.staysNew("45 saw(0)", -2, x -> x.saw(0));
        PencilLine x = Whole.lived();
        CHECK.due("45 crack 0 was seen twice", x.saw(0), 3);
        CHECK.due("45 crack 1 was not", x.saw(1), 1);
        CHECK.due("45 crack 2 was once", x.saw(2), 2);
        PencilLine seven = Check.on(SEVEN);
        CHECK.due("45 the seventh", seven.saw(6), 1);
        CHECK.due("45 an eighth", seven.saw(7), -2);
    }

    private static void sawTimes() {
        PencilLine x = Check.on(SEVEN);
        for (int times = 1; times <= 98; times++) {
            x.saw(6);
        }
        CHECK.due("45 98 times", x.seam(6), 9800);
        CHECK.due("45 the 99th", x.saw(6), 99);
        CHECK.due("45 99 times", x.seam(6), 9900);
        for (int i = 0; i < 3; i++) {
            CHECK.due("45 the 100th", x.saw(6), -3);
            CHECK.due("45 99 times still", x.seam(6), 9900);
        }
        CHECK.due("45 another one is not full", x.saw(5), 1);
        CHECK.due("45 -2 for none such", x.saw(7), -2);
        x.keep(0);
        Check.floe(x, SEVEN);
        CHECK.due("45 nothing was seen behind floe()", x.saw(6), 1);
        x.back(0);
        CHECK.due("45 full again", x.saw(6), -3);
    }

    private static void passRefused() {
        for (int n : new int[] {-1, 100, 101, LEAST, MOST}) {
            WHOLE.stays("46 pass(" + n + ")", -2, x -> x.pass(n));
            WHOLE.staysNew("46 pass(" + n + ")", -2, x -> x.pass(n));
        }
        WHOLE.staysNew("46 pass(0), no floe", -2, x -> x.pass(0));
        WHOLE.stays("46 pass(0)", 40, x -> x.pass(0));
        CHECK.due("46 pass(99)", Whole.lived().pass(99), 139);
    }

    private static void passHours() {
        PencilLine x = Check.on(SEVEN);
        for (int i = 1; i <= 100; i++) {
            x.pass(99);
        }
        CHECK.due("46 9,900", x.count(11), 9900);
        CHECK.due("46 9,998", x.pass(98), 9998);
        CHECK.due("46 10,000", x.pass(2), -2);
        CHECK.due("46 10,097", x.pass(99), -2);
        CHECK.due("46 9,998 still", x.count(11), 9998);
        CHECK.due("46 9,999", x.pass(1), 9999);
        CHECK.due("46 one more", x.pass(1), -2);
        CHECK.due("46 none more", x.pass(0), 9999);
        CHECK.due("46 9,999 still", x.count(11), 9999);
        x.saw(0);
        CHECK.due("47 once in 9,999 hours", x.seam(0), 0);
        x.saw(0);
        CHECK.due("47 twice: 20,000 by 10,099", x.seam(0), 1);
        Check.floe(x, SEVEN);
        CHECK.due("46 nothing watched behind floe()", x.pass(99), 99);
    }

    private static void seamCut() {
        // odds 135, 128, 72; seen 2, 0, 1; 40 hours
        int[] due = {33500 / 140, 12800 / 140, 17200 / 140};
        for (int crack = 0; crack < 3; crack++) {
            int asked = crack;
            WHOLE.stays("47 seam(" + crack + ")", due[crack], x -> x.seam(asked));
        }
        PencilLine x = Check.on(SMALL + "crack down 1 odds 0 swell 0 warm 0 weight 99 old;"
                + "sort heat gives 1 tons 99 many 20;".repeat(6));
        CHECK.due("47 none", x.seam(0), 0);
        x.heap(0, 0, 0);
        x.lay(0);
        CHECK.due("47 odds 10,000", x.seam(0), 10000);
        x.saw(0);
        CHECK.due("47 more than 10,000", x.seam(0), 10100);
        x.pass(1);
        CHECK.due("47 1,010,000 by 101", x.seam(0), 10000);
        x.pass(1);
        CHECK.due("47 by 102, cut", x.seam(0), 9901);
        PencilLine once = Check.on(SEVEN);
        once.saw(0);
        once.pass(37);
        CHECK.due("47 10,000 by 137 is one less than 73 of them", once.seam(0), 72);
        once.saw(0);
        once.pass(9);
        CHECK.due("47 20,000 by 146, cut", once.seam(0), 136);
        PencilLine seven = Check.on(SEVEN);
        CHECK.due("47 the seventh", seven.seam(6), 0);
        CHECK.due("47 an eighth", seven.seam(7), -2);
        WHOLE.staysNew("47 seam(0)", -2, y -> y.seam(0));
    }

    // ---- 48 run, 49 struck, 50 springs ----

    private static void runRefused() {
        int[][] wrong = {{-1, 1}, {2000000001, 1}, {0, -1}, {0, 100}, {LEAST, 1}, {MOST, 1}, {1, LEAST}, {1, MOST},
            {-1, -1}, {2000000001, 100}};
        for (int[] w : wrong) {
            WHOLE.stays("48 run(" + w[0] + ", " + w[1] + ")", -2, x -> x.run(w[0], w[1]));
            WHOLE.staysNew("48 run(" + w[0] + ", " + w[1] + ")", -2, x -> x.run(w[0], w[1]));
        }
        WHOLE.staysNew("48 run(0, 0)", -2, x -> x.run(0, 0));
    }

    private static void runEnds() {
        PencilLine x = Whole.lived();
        int open = x.count(8);
        CHECK.due("48 no hours: what is open", x.run(0, 0), open);
        CHECK.due("48 no hours, the greatest seed", x.run(2000000000, 0), open);
        CHECK.due("49 behind no hour", x.struck(), 0);
        for (int[] right : new int[][] {{0, 99}, {2000000000, 99}, {0, 1}, {2000000000, 1}}) {
            int set = x.run(right[0], right[1]);
            CHECK.holds("48 a set", set >= 0 && set < 8);
            CHECK.due("48 which stays open", x.count(8), set);
            CHECK.due("48 and is what was open", x.open(0), set);
        }
        PencilLine none = Check.on(SMALL);
        CHECK.due("48 no cracks", none.run(2000000000, 99), 0);
        CHECK.due("49 no cracks, nothing told", none.struck(), 0);
    }

    /** The first draws of a seed, worked by long division: below its odds it opens, at them it does not. */
    private static void runDraws() {
        for (int seed : new int[] {0, 1, 2, 3, 41, 77, 1999999999, 2000000000}) {
            long x = seed;
            int[] draws = new int[3];
            for (int i = 0; i < 3; i++) {
                x = (1103515245L * x + 12345L) % 2147483648L;
                draws[i] = (int) (x / 65536 % 10000);
            }
            // three cracks, each by the draw of its number; odds 0 and 500 and what lies between
            for (int i = 0; i < 3; i++) {
                for (int odds : new int[] {0, 500, draws[i], draws[i] + 1}) {
                    if (odds <= 500) {
                        PencilLine y = Check.on(SMALL + "crack down 1 odds 0 swell 0 warm 0 weight 0;".repeat(i)
                                + "crack down 1 odds " + odds + " swell 0 warm 0 weight 0;");
                        CHECK.due("48 seed " + seed + " crack " + i + " odds " + odds, y.run(seed, 1),
                                draws[i] < odds ? 1 << i : 0);
                    }
                }
                for (int shuts : new int[] {0, 100, draws[i] / 100, draws[i] / 100 + 1}) {
                    PencilLine y = Check.on(SMALL + "crack down 1 odds 0 swell 0 warm 0 weight 0;".repeat(i + 1)
                            + "shuts " + shuts + ";");
                    y.open(1 << i);
                    CHECK.due("48 seed " + seed + " crack " + i + " shuts " + shuts, y.run(seed, 1),
                            draws[i] < 100 * shuts ? 0 : 1 << i);
                }
            }
        }
    }

    /** A crack that is open and never shuts: struck by hour 1; one that never opens: by none. */
    private static void struckHours() {
        String text = "floe wide 2 deep 2 people 2 days 1;crack down 1 odds 500 swell 0 warm 0 weight 0;"
                + "sort heat gives 2 tons 1 many 1;";
        PencilLine x = Check.on(text);
        x.heap(0, 0, 0);
        x.put(0, 0, 1);
        x.sleep(0, 0, 0, 1);
        x.sleep(1, 1, 0, 1);
        x.open(1);
        x.run(9, 0);
        CHECK.due("49 no hour", x.struck(), 0);
        x.run(9, 1);
        CHECK.due("49 the first", x.struck(), 1);
        x.run(9, 99);
        CHECK.due("49 the first of 99", x.struck(), 1);
        // hour by hour: struck behind the first hour behind which the crack is open
        int due = 0;
        for (int hours = 1; hours <= 99 && due == 0; hours++) {
            x.open(0);
            due = x.run(12, hours) == 1 ? hours : 0;
            CHECK.due("49 within " + hours, x.struck(), due);
        }
        CHECK.holds("49 not at once", due > 1);
        x.open(0);
        x.run(12, due - 1);
        CHECK.due("49 an hour too few", x.struck(), 0);
        x.open(0);
        x.run(12, 99);
        CHECK.due("49 the first of more", x.struck(), due);
        CHECK.due("50 within as many", springsOf(x, due), 1);
        CHECK.due("50 within one less", springsOf(x, due - 1), 0);
    }

    private static int springsOf(PencilLine x, int hours) {
        x.open(0);
        return x.springs(12, 1, hours);
    }

    private static void struckStays() {
        PencilLine x = Check.on(SMALL + "sort heat gives 1 tons 1 many 1;");
        CHECK.due("49 none since floe()", x.struck(), 0);
        x.run(1, 5);
        CHECK.due("49 never enough", x.struck(), 1);
        x.keep(0);
        x.heap(0, 0, 0);
        x.put(0, 0, 1);
        CHECK.due("49 as all lay then", x.struck(), 1);
        x.run(2000000001, 5);
        x.run(1, 100);
        x.springs(1, 5, 5);
        CHECK.due("49 refused runs and springs", x.struck(), 1);
        x.back(0);
        CHECK.due("49 it stays over back", x.struck(), 1);
        Check.floe(x, "floe");
        CHECK.due("49 it stays over a fault", x.struck(), 1);
        Check.floe(x, SMALL);
        CHECK.due("49 none since this floe()", x.struck(), 0);
        x.back(0);
        CHECK.due("49 nor by going back", x.struck(), 0);
        x.run(1, 1);
        CHECK.due("49 struck again", x.struck(), 1);
        x.heap(0, 0, 0);
        x.put(0, 0, 1);
        x.run(1, 1);
        CHECK.due("49 of the latest run alone", x.struck(), 0);
        x.put(0, 0, 0);
        x.run(1, 1);
        Check.floe(x, "");
        CHECK.due("49 behind an empty tape", x.struck(), 0);
    }

    private static void springsRefused() {
        int[][] wrong = {{-1, 1, 1}, {2000000001, 1, 1}, {0, 0, 1}, {0, 61, 1}, {0, -1, 1}, {0, 1, -1}, {0, 1, 100},
            {LEAST, 1, 1}, {MOST, 1, 1}, {0, LEAST, 1}, {0, MOST, 1}, {0, 1, LEAST}, {0, 1, MOST}};
        for (int[] w : wrong) {
            String of = "50 springs(" + w[0] + ", " + w[1] + ", " + w[2] + ")";
            WHOLE.stays(of, -2, x -> x.springs(w[0], w[1], w[2]));
            WHOLE.staysNew(of, -2, x -> x.springs(w[0], w[1], w[2]));
        }
        WHOLE.asks("50 springs(0, 1, 0)", x -> x.springs(0, 1, 0));
        WHOLE.asks("50 springs(2000000000, 60, 99)", x -> x.springs(2000000000, 60, 99));
    }

    private static void springsEnds() {
        PencilLine x = Check.on(SMALL + "sort heat gives 1 tons 1 many 1;");
        CHECK.due("50 no hours: behind none", x.springs(0, 60, 0), 0);
        CHECK.due("50 all 60", x.springs(0, 60, 1), 60);
        CHECK.due("50 all 60 from the greatest seed", x.springs(2000000000, 60, 99), 60);
        CHECK.due("50 one", x.springs(0, 1, 99), 1);
        x.sleep(0, 0, 0, 0);
        CHECK.due("50 nobody sleeps", x.springs(0, 60, 99), 0);
        // the seeds are the seed and 1, ..
        PencilLine y = Whole.lived();
        y.open(0);
        for (int n = 1; n <= 60; n += 59) {
            int due = 0;
            for (int i = 0; i < n; i++) {
                y.run(700 + i, 4);
                due += y.struck() > 0 ? 1 : 0;
                y.open(0);
            }
            CHECK.due("50 as by run()", y.springs(700, n, 4), due);
        }
    }

    // ---- 51 count ----

    private static void countRefused() {
        for (int what : new int[] {-1, -2, 14, 15, LEAST, MOST}) {
            WHOLE.stays("51 count(" + what + ")", -1, x -> x.count(what));
            WHOLE.staysNew("51 count(" + what + ")", -1, x -> x.count(what));
        }
        int[] due = {6, 4, 9, 10, 3, 2, 2, 3, Whole.lived().open(0), 14, 42, 40, 8, 3};
        for (int what = 0; what < due.length; what++) {
            int asked = what;
            WHOLE.stays("51 count(" + what + ")", due[what], x -> x.count(asked));
        }
    }

    /** The most of each. */
    private static void countEach() {
        PencilLine x = Check.on("floe wide 12 deep 11 people 28 days 60;"
                + "crack down 1 odds 0 swell 0 warm 0 weight 0;".repeat(7)
                + "sort heat gives 1 tons 1 many 1;".repeat(6) + "other day 1 odds 1 breaks 1;".repeat(4)
                + "sea swell 0 warm 0;shuts 0;fetch 0 across 0;sees 0;drift 0 land 0;breaks 0 crossing 0;");
        for (int heap = 0; heap < 8; heap++) {
            x.heap(heap, 0, 0);
        }
        x.open(127);
        for (int slot = 0; slot < 4; slot++) {
            CHECK.due("51 slots that have a row", x.count(13), slot);
            x.row(slot, 0, 0);
        }
        x.row(3, 1, 60);
        x.pass(99);
        int[] due = {12, 11, 28, 60, 7, 6, 4, 8, 127, 24, 0, 99, 28, 4};
        for (int what = 0; what < due.length; what++) {
            CHECK.due("51 the most, count(" + what + ")", x.count(what), due[what]);
        }
    }

    // ---- 52 keep, 53 back ----

    private static void keepRefused() {
        for (int k : new int[] {-1, 3, 4, LEAST, MOST}) {
            WHOLE.stays("52 keep(" + k + ")", -2, x -> x.keep(k));
            WHOLE.staysNew("52 keep(" + k + ")", -2, x -> x.keep(k));
        }
    }

    /** An image keeps what was; later calls do not reach it, nor it another. */
    private static void keepAlone() {
        PencilLine x = Check.on(SMALL + "sort heat gives 1 tons 1 many 9;");
        x.heap(0, 0, 0);
        for (int k = 0; k < 3; k++) {
            x.put(0, 0, k + 1);
            CHECK.due("52 keep(" + k + ")", x.keep(k), 0);
        }
        x.put(0, 0, 9);
        for (int k = 2; k >= 0; k--) {
            CHECK.due("53 back(" + k + ")", x.back(k), 0);
            CHECK.due("53 as image " + k + " has it", x.lies(0, 3), k + 1);
            x.put(0, 0, 8);
            CHECK.due("53 again back(" + k + ")", x.back(k), 0);
            CHECK.due("53 the image stays", x.lies(0, 3), k + 1);
        }
        x.put(0, 0, 7);
        CHECK.due("52 in place of what it kept", x.keep(1), 0);
        x.back(2);
        x.back(1);
        CHECK.due("53 the newer", x.lies(0, 3), 7);
        Check.floe(x, SMALL);
        CHECK.due("53 over another floe", x.back(0), 0);
        CHECK.due("53 its sorts", x.lies(0, 3), 1);
    }

    private static void backRefused() {
        for (int k : new int[] {-1, 3, 4, LEAST, MOST}) {
            WHOLE.stays("53 back(" + k + ")", -2, x -> x.back(k));
            WHOLE.staysNew("53 back(" + k + ")", -2, x -> x.back(k));
        }
        WHOLE.stays("53 image 1 has nothing", -6, x -> x.back(1));
        for (int k = 0; k < 3; k++) {
            int asked = k;
            WHOLE.staysNew("53 image " + k + " has nothing", -6, x -> x.back(asked));
        }
        PencilLine x = new PencilLine();
        x.keep(1);
        CHECK.due("53 an image of no floe is something", x.back(1), 0);
        CHECK.due("53 image 0 has nothing", x.back(0), -6);
        CHECK.due("53 image 2 has nothing", x.back(2), -6);
    }

    /** All of it comes back; slots, the tape, the fault and struck() stay. */
    private static void backWhole() {
        PencilLine x = Whole.lived();
        int struck = x.struck();
        int set = x.count(8);
        CHECK.due("52 keep", x.keep(1), 0);
        x.heap(0, -1, 0);
        x.heap(1, 2, 2);
        x.put(3, 0, 0);
        x.sleep(0, 5, 3, 1);
        x.open(7 - set);
        x.saw(0);
        x.saw(1);
        x.pass(9);
        x.row(2, 0, 1);
        x.end(9);
        CHECK.due("53 back", x.back(1), 0);
        CHECK.due("53 heap 0", x.lies(0, 2), 34);
        CHECK.due("53 heap 1", x.lies(1, 0), -1);
        CHECK.due("53 heap 3", x.lies(3, 3), 2);
        CHECK.due("53 heaps", x.count(7), 3);
        CHECK.due("53 sleepers", x.count(12), 8);
        CHECK.due("53 where they sleep", x.minutes(0, 0, 0, 0), 80);
        CHECK.due("53 the set", x.count(8), set);
        CHECK.due("53 hours", x.count(11), 40);
        CHECK.due("53 seen twice", x.seam(0), 33500 / 140);
        CHECK.due("53 never seen", x.seam(1), 12800 / 140);
        CHECK.due("53 slots stay", x.count(13), 4);
        CHECK.due("53 the tape stays", x.count(10), 9);
        CHECK.due("53 the fault stays", x.fault(1), 10);
        CHECK.due("53 struck stays", x.struck(), struck);
        CHECK.due("53 image 2", x.back(2), 0);
        CHECK.due("53 its floe", x.count(0), 3);
        CHECK.due("53 its heap", x.lies(2, 0), 2);
        CHECK.due("53 its lines", x.count(9), 2);
        CHECK.due("53 nothing seen there", x.count(11), 0);
    }

    // ---- 54 row ----

    private static void rowRefused() {
        int[][] wrong = {{-1, 0, 0}, {4, 0, 0}, {0, -1, 0}, {0, 4, 0}, {0, 0, 61}, {LEAST, 0, 0}, {MOST, 0, 0},
            {0, LEAST, 0}, {0, MOST, 0}, {0, 0, MOST}, {2, 0, 61}, {2, 4, 1}, {4, 0, -1}, {0, 4, -1}, {-1, 0, -1},
            {0, -1, -1}, {3, 3, 61}};
        for (int[] w : wrong) {
            String of = "54 row(" + w[0] + ", " + w[1] + ", " + w[2] + ")";
            WHOLE.stays(of, -2, x -> x.row(w[0], w[1], w[2]));
            WHOLE.staysNew(of, -2, x -> x.row(w[0], w[1], w[2]));
        }
        int[][] below = {{0, 0, -1}, {0, 3, -1}, {1, 0, -1}, {2, 1, -1}, {3, 2, LEAST}, {3, 3, -60}};
        for (int[] w : below) {
            String of = "54 row(" + w[0] + ", " + w[1] + ", " + w[2] + ")";
            WHOLE.stays(of, -3, x -> x.row(w[0], w[1], w[2]));
            WHOLE.staysNew(of, -3, x -> x.row(w[0], w[1], w[2]));
        }
    }

    private static void rowNumbers() {
        for (int slot = 0; slot < 4; slot++) {
            for (int width = 0; width < 4; width++) {
                for (int n : new int[] {0, 1, 59, 60}) {
                    PencilLine x = Check.on(SMALL);
                    CHECK.due("54 row of " + n, x.row(slot, width, n), 0);
                    CHECK.due("54 so many, all 0", x.judge(slot), n);
                    CHECK.due("54 one slot has a row", x.count(13), 1);
                    CHECK.due("54 no number " + n, x.write(slot, n, 1), -7);
                    CHECK.due("54 number " + (n - 1), x.write(slot, n - 1, 1), n == 0 ? -7 : 0);
                    CHECK.due("54 it is the last", x.judge(slot), Math.max(0, n - 1));
                }
            }
        }
    }

    private static void rowInPlace() {
        PencilLine x = Check.on(SMALL);
        x.row(1, 0, 60);
        for (int i = 0; i < 60; i++) {
            x.write(1, i, -1);
        }
        CHECK.due("54 a shorter one", x.row(1, 3, 5), 0);
        CHECK.due("54 all 0", x.judge(1), 5);
        CHECK.due("54 no number 5", x.write(1, 5, 0), -7);
        CHECK.due("54 its width", x.write(1, 0, 256), 0);
        CHECK.due("54 is not cut", x.judge(1), 0);
        CHECK.due("54 a longer one", x.row(1, 0, 60), 0);
        CHECK.due("54 all 0 again", x.judge(1), 60);
        CHECK.due("54 none", x.row(1, 0, 0), 0);
        CHECK.due("54 has no number", x.write(1, 0, 0), -7);
        CHECK.due("54 has a row still", x.count(13), 1);
        CHECK.due("54 as long as it was", x.row(1, 0, 60), 0);
        CHECK.due("54 without what it had", x.judge(1), 60);
    }

    // ---- 55 write ----

    private static void writeRefused() {
        int[][] wrong = {{-1, 0}, {4, 0}, {LEAST, 0}, {MOST, 0}, {-1, -1}, {4, 99}};
        for (int[] w : wrong) {
            WHOLE.stays("55 write(" + w[0] + ", " + w[1] + ", -1)", -2, x -> x.write(w[0], w[1], -1));
        }
        for (int i : new int[] {0, -1, 60, LEAST, MOST}) {
            WHOLE.stays("55 slot 2 has nothing, number " + i, -6, x -> x.write(2, i, -1));
        }
        int[][] beyond = {{0, -1}, {0, 5}, {0, 60}, {0, LEAST}, {0, MOST}, {1, 3}, {1, -1}, {3, 4}};
        for (int[] b : beyond) {
            WHOLE.stays("55 write(" + b[0] + ", " + b[1] + ", -1)", -7, x -> x.write(b[0], b[1], -1));
        }
        WHOLE.staysNew("55 nothing", -6, x -> x.write(0, 0, 0));
        WHOLE.staysNew("55 no slot", -2, x -> x.write(4, 0, 0));
    }

    private static void writeNumbers() {
        PencilLine x = Check.on(SMALL);
        x.row(3, 0, 60);
        for (int i = 59; i >= 0; i--) {
            CHECK.due("55 number " + i, x.write(3, i, -1), 0);
            CHECK.due("55 it and those behind", x.judge(3), i);
        }
        for (int i = 0; i < 60; i++) {
            CHECK.due("55 number " + i + " again", x.write(3, i, 0), 0);
            CHECK.due("55 it alone", x.judge(3), i + 1);
        }
        CHECK.due("55 number 60", x.write(3, 60, 0), -7);
    }

    /** With seven cracks 0 .. 127 are sets: what a width cuts to one of these is seen by judge(). */
    private static void writeCut() {
        int[] bits = {8, 16, 32, 64};
        for (int width = 0; width < 4; width++) {
            PencilLine x = Check.on(SEVEN);
            x.row(0, width, 1);
            long most = (1L << bits[width] - 1) - 1;
            CHECK.due("55 127", written(x, 127), 1);
            CHECK.due("55 128 is above, or wraps below 0", written(x, 128), 0);
            CHECK.due("55 -1", written(x, -1), 0);
            CHECK.due("55 the greatest of width " + width, written(x, most), width == 0 ? 1 : 0);
            CHECK.due("55 one more wraps to the least", written(x, most + 1), 0);
            CHECK.due("55 the least", written(x, -most - 1), 0);
            CHECK.due("55 one less wraps to the greatest", written(x, -most - 2), width == 0 ? 1 : 0);
            for (int other = 0; other < 3; other++) {
                long over = 1L << bits[other];
                int cut = width <= other ? 1 : 0;
                CHECK.due("55 " + over + " in width " + width, written(x, over), cut);
                CHECK.due("55 " + over + " and 127 in width " + width, written(x, over + 127), cut);
                CHECK.due("55 " + over + " less 1 in width " + width, written(x, over - 1), 0);
                CHECK.due("55 below 0, " + over + " in width " + width, written(x, -over), cut);
                CHECK.due("55 below 0, to 127", written(x, -over + 127), cut);
                CHECK.due("55 below 0, to 128", written(x, -over + 128), 0);
            }
            CHECK.due("55 the greatest of all", written(x, Long.MAX_VALUE), 0);
            CHECK.due("55 the least of all", written(x, Long.MIN_VALUE), width < 3 ? 1 : 0);
            CHECK.due("55 and 127", written(x, Long.MIN_VALUE + 127), width < 3 ? 1 : 0);
            CHECK.due("55 and 128", written(x, Long.MIN_VALUE + 128), 0);
        }
    }

    private static int written(PencilLine x, long v) {
        CHECK.due("55 write " + v, x.write(0, 0, v), 0);
        return x.judge(0);
    }

    // ---- 56 paste ----

    private static void pasteRefused() {
        int[][] none = {{-1, 0, 0, 0, 0}, {4, 0, 0, 0, 0}, {0, 0, -1, 0, 0}, {0, 0, 4, 0, 0}, {4, 0, 4, 0, 0},
            {LEAST, 0, 0, 0, 0}, {0, 0, MOST, 0, 0}, {4, 0, 2, 0, 0}, {2, 0, 4, 0, 0}, {4, -1, 0, 0, 0}, {0, 0, 4, 0, -1}};
        pasted(none, -2);
        int[][] nothing = {{0, 0, 2, 0, 0}, {2, 0, 0, 0, 0}, {2, 0, 2, 0, 0}, {0, 0, 2, 0, 1}, {2, 9, 1, 9, 9}, {0, -1, 2, 0, 0}};
        pasted(nothing, -6);
        int[][] widths = {{0, 0, 1, 0, 0}, {1, 0, 0, 0, 1}, {3, 0, 1, 0, 2}, {0, 9, 1, 0, 1}, {0, 0, 1, 9, 1}, {1, 0, 3, 0, -1}};
        pasted(widths, -8);
        // slot 0 has five numbers, slot 3 four of the same width
        int[][] beyond = {{0, 0, 3, 0, 5}, {0, 1, 3, 0, 5}, {0, 2, 3, 0, 4}, {0, 0, 3, 1, 4}, {3, 0, 0, 2, 4}, {3, 1, 0, 0, 4},
            {0, -1, 3, 0, 1}, {0, 0, 3, -1, 1}, {0, 0, 3, 0, -1}, {0, -1, 3, 0, 0}, {0, 0, 3, -1, 0}, {0, 6, 3, 0, 0},
            {0, 0, 3, 5, 0}, {0, 5, 3, 0, 1}, {0, 0, 3, 4, 1}, {0, MOST, 3, 0, 1}, {0, 0, 3, MOST, 1}, {0, 1, 3, 1, MOST},
            {0, MOST, 3, MOST, MOST}, {0, LEAST, 3, 0, MOST}, {0, 0, 3, 0, LEAST}, {0, 1, 0, 0, 5}, {0, 0, 0, 1, 5},
            {0, 6, 0, 6, 0}, {1, 0, 1, 0, 4}};
        pasted(beyond, -7);
    }

    private static void pasted(int[][] calls, int due) {
        for (int[] c : calls) {
            String of = "56 paste(" + c[0] + ", " + c[1] + ", " + c[2] + ", " + c[3] + ", " + c[4] + ")";
            WHOLE.stays(of, due, x -> x.paste(c[0], c[1], c[2], c[3], c[4]));
        }
    }

    /** No slot is told ahead of nothing there, that of another width, and that of places beyond. */
    private static void pasteOrder() {
        PencilLine x = new PencilLine();
        CHECK.due("56 no slot, nothing", x.paste(0, -1, 4, 0, -1), -2);
        CHECK.due("56 nothing, beyond", x.paste(0, -1, 1, 0, -1), -6);
        x.row(0, 0, 1);
        CHECK.due("56 one has nothing", x.paste(0, -1, 1, 0, -1), -6);
        CHECK.due("56 the other has nothing", x.paste(1, -1, 0, 0, -1), -6);
        x.row(1, 1, 1);
        CHECK.due("56 widths, beyond", x.paste(0, -1, 1, 0, -1), -8);
        x.row(1, 0, 1);
        CHECK.due("56 beyond", x.paste(0, -1, 1, 0, -1), -7);
        CHECK.due("56 none of it", x.paste(0, 0, 1, 0, 1), 0);
    }

    private static void pasteEnds() {
        int[][] none = {{0, 0, 3, 0, 0}, {0, 5, 3, 0, 0}, {0, 0, 3, 4, 0}, {0, 5, 3, 4, 0}, {0, 5, 0, 5, 0}, {0, 0, 0, 0, 5},
            {1, 3, 1, 3, 0}};
        pasted(none, 0);
        // -1 stands at 1 and 8 at 3 of slot 0, 9 at 0 of slot 3: none of them is a set
        int[][] due = {{0, 0, 3, 0, 4, 1}, {0, 1, 3, 3, 1, 0}, {0, 2, 3, 0, 1, 4}, {0, 1, 3, 0, 4, 0}, {0, 4, 3, 0, 1, 4},
            {0, 0, 3, 0, 1, 4}, {0, 2, 3, 0, 3, 1}};
        for (int[] d : due) {
            PencilLine x = Whole.lived();
            CHECK.due("56 paste", x.paste(d[0], d[1], d[2], d[3], d[4]), 0);
            CHECK.due("56 put there", x.judge(3), d[5]);
            CHECK.due("56 the first stays", x.judge(0), 1);
        }
        PencilLine full = Check.on(SMALL);
        full.row(0, 2, 60);
        full.row(1, 2, 60);
        full.write(0, 0, -1);
        full.write(0, 59, -1);
        CHECK.due("56 60 numbers", full.paste(0, 0, 1, 0, 60), 0);
        CHECK.due("56 the first", full.judge(1), 0);
        full.write(1, 0, 0);
        CHECK.due("56 the last", full.judge(1), 59);
        CHECK.due("56 61 numbers", full.paste(0, 0, 1, 0, 61), -7);
        CHECK.due("56 the last to the last", full.paste(1, 0, 1, 59, 1), 0);
        CHECK.due("56 it is put", full.judge(1), 60);
    }

    /** As they were: what is put does not run on into what is still to be put. */
    private static void pasteOntoItself() {
        for (int from = 0; from <= 3; from++) {
            for (int to = 0; to <= 3; to++) {
                for (int bad = 0; bad < 6; bad++) {
                    PencilLine x = Check.on(SMALL);
                    x.row(0, 1, 6);
                    boolean[] set = new boolean[6];
                    for (int i = 0; i < 6; i++) {
                        set[i] = i != bad;
                    }
                    x.write(0, bad, -1);
                    CHECK.due("56 onto itself", x.paste(0, from, 0, to, 3), 0);
                    boolean[] was = set.clone();
                    for (int i = 0; i < 3; i++) {
                        set[to + i] = was[from + i];
                    }
                    for (int i = 0; i < 6; i++) {
                        if (!set[i]) {
                            CHECK.due("56 from " + from + " to " + to + ", -1 at " + bad, x.judge(0), i);
                            x.write(0, i, 0);
                        }
                    }
                    CHECK.due("56 all others 0", x.judge(0), 6);
                }
            }
        }
    }

    private static void pasteWidths() {
        long[] high = {1L << 6, 1L << 14, 1L << 30, 1L << 62};
        for (int width = 0; width < 4; width++) {
            for (int other = 0; other < 4; other++) {
                PencilLine x = Check.on(SMALL);
                x.row(0, width, 2);
                x.row(1, other, 2);
                x.write(0, 1, high[width]);
                CHECK.due("56 widths " + width + " and " + other, x.paste(0, 0, 1, 0, 2), width == other ? 0 : -8);
                CHECK.due("56 put whole, or not", x.judge(1), width == other ? 1 : 2);
            }
        }
    }
}
