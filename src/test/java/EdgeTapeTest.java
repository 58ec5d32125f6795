import java.util.function.Supplier;
import java.util.function.ToLongFunction;

/** The boundaries of promises 1 to 5: no floe, the tape, the numbers and words of a floe, its faults. */
public final class EdgeTapeTest {
    private static final long ALL = 1000000000000L;
    private static final int LEAST = Integer.MIN_VALUE;
    private static final int MOST = Integer.MAX_VALUE;
    private static final String FLOE = "floe wide 6 deep 4 people 4 days 10;";
    private static final Check CHECK = new Check("EdgeTapeTest");
    private static final Whole WHOLE = new Whole(CHECK);

    private interface Ask extends ToLongFunction<PencilLine> {
    }

    public static void main(String[] args) {
        withoutFloe("new", PencilLine::new);
        withoutFloe("emptied", EdgeTapeTest::emptied);
        withoutFloe("gone back to none", EdgeTapeTest::goneBack);
        newObjectHasNothing();
        feedToTheLastByte();
        feedBeyond();
        feedBytes();
        endWithin();
        endBeyond();
        floeEmptyTape();
        floeTakesTheTape();
        floeFaultChangesNothing();
        floeFullTape();
        numbers();
        numbersByTheFloe();
        numbersStand();
        linesNotTold();
        words();
        linesAtMost();
        linesOnce();
        faultWhat();
        faultOfTheLatest();
        faultPlaces();
        faultFirst();
        CHECK.finish();
    }

    // ---- no floe ----

    private static PencilLine emptied() {
        PencilLine x = Check.on(Whole.TEXT);
        x.heap(0, 1, 1);
        x.saw(0);
        x.pass(5);
        CHECK.due("4 an empty tape in place of a floe", x.floe(), 0);
        return x;
    }

    private static PencilLine goneBack() {
        PencilLine x = new PencilLine();
        x.keep(1);
        Check.floe(x, Whole.TEXT);
        x.heap(0, 1, 1);
        CHECK.due("53 back to no floe", x.back(1), 0);
        return x;
    }

    private static void without(String state, Supplier<PencilLine> make, String call, long due, Ask ask) {
        CHECK.due("without a floe (" + state + ") " + call, ask.applyAsLong(make.get()), due);
    }

    private static void withoutFloe(String state, Supplier<PencilLine> make) {
        Object[][] none = {
            {"heap(0, 0, 0)", (Ask) x -> x.heap(0, 0, 0)}, {"put", (Ask) x -> x.put(0, 0, 0)},
            {"sleep of none", (Ask) x -> x.sleep(0, 0, 0, 0)}, {"open(0)", (Ask) x -> x.open(0)},
            {"lies(0, 3)", (Ask) x -> x.lies(0, 3)}, {"near(0)", (Ask) x -> x.near(0)},
            {"odds(0)", (Ask) x -> x.odds(0)}, {"piece(0, 0, 0)", (Ask) x -> x.piece(0, 0, 0)},
            {"pieces(0)", (Ask) x -> x.pieces(0)}, {"part(0)", (Ask) x -> x.part(0)},
            {"with(0, false)", (Ask) x -> x.with(0, false)}, {"with(0, true)", (Ask) x -> x.with(0, true)},
            {"enough(0)", (Ask) x -> x.enough(0)}, {"lacks(0, 0)", (Ask) x -> x.lacks(0, 0)},
            {"lost(1)", (Ask) x -> x.lost(1)}, {"safe(0)", (Ask) x -> x.safe(0)},
            {"safe(1000)", (Ask) x -> x.safe(1000)}, {"judge(0)", (Ask) x -> x.judge(0)},
            {"lay(0)", (Ask) x -> x.lay(0)}, {"trial(0)", (Ask) x -> x.trial(0)},
            {"best()", (Ask) x -> x.best()}, {"betters(0)", (Ask) x -> x.betters(0)},
            {"gap()", (Ask) x -> x.gap()}, {"heaps()", (Ask) x -> x.heaps()},
            {"where(0)", (Ask) x -> x.where(0)}, {"alive(1, 0, 0)", (Ask) x -> x.alive(1, 0, 0)},
            {"go(1, 0, 0)", (Ask) x -> x.go(1, 0, 0)}, {"leave()", (Ask) x -> x.leave()},
            {"load(0, 0, 0)", (Ask) x -> x.load(0, 0, 0)}, {"across(0, 0, 0)", (Ask) x -> x.across(0, 0, 0)},
            {"minutes", (Ask) x -> x.minutes(0, 0, 0, 0)}, {"fetch(0, 0)", (Ask) x -> x.fetch(0, 0)},
            {"fetched", (Ask) x -> x.fetched(0, 0, 0, 0)}, {"thin(0, 0)", (Ask) x -> x.thin(0, 0)},
            {"apart(0, 0)", (Ask) x -> x.apart(0, 0)}, {"miles(0, 20)", (Ask) x -> x.miles(0, 20)},
            {"boats(99, 1)", (Ask) x -> x.boats(99, 1)}, {"saw(0)", (Ask) x -> x.saw(0)},
            {"pass(0)", (Ask) x -> x.pass(0)}, {"seam(0)", (Ask) x -> x.seam(0)},
            {"run(0, 0)", (Ask) x -> x.run(0, 0)}, {"springs(0, 1, 0)", (Ask) x -> x.springs(0, 1, 0)}};
        for (Object[] call : none) {
            without(state, make, (String) call[0], -2, (Ask) call[1]);
        }
        for (int what = 0; what <= 13; what++) {
            int asked = what;
            without(state, make, "count(" + what + ")", 0, x -> x.count(asked));
        }
        asWithoutTheseLines(state, make);
    }

    private static void asWithoutTheseLines(String state, Supplier<PencilLine> make) {
        without(state, make, "heap off", 0, x -> x.heap(0, -1, 0));
        for (int heap = 0; heap < 8; heap++) {
            int asked = heap;
            without(state, make, "lies of heap " + heap, -1, x -> x.lies(asked, 0));
            without(state, make, "tons of heap " + heap, -1, x -> x.lies(asked, 2));
        }
        without(state, make, "watch(0)", ALL, x -> x.watch(0));
        without(state, make, "watch(1): sees 50", ALL / 2, x -> x.watch(1));
        without(state, make, "watches(500): sees 50", 1, x -> x.watches(500));
        without(state, make, "least of all kinds", 0, x -> x.least(28, 60, -1));
        without(state, make, "least of heat", 0, x -> x.least(28, 60, 3));
        without(state, make, "lasts", 60, x -> x.lasts(28, 0));
        without(state, make, "struck()", 0, x -> x.struck());
        without(state, make, "keep(0)", 0, x -> x.keep(0));
        without(state, make, "row(0, 0, 60)", 0, x -> x.row(0, 0, 60));
        without(state, make, "fault(0)", 0, x -> x.fault(0));
        without(state, make, "fault(1)", -1, x -> x.fault(1));
    }

    private static void newObjectHasNothing() {
        for (int slot = 0; slot < 4; slot++) {
            int asked = slot;
            WHOLE.staysNew("1 write to slot " + slot, -6, x -> x.write(asked, 0, 1));
            WHOLE.staysNew("1 paste within slot " + slot, -6, x -> x.paste(asked, 0, asked, 0, 0));
        }
        for (int k = 0; k < 3; k++) {
            int asked = k;
            WHOLE.staysNew("1 back to image " + k, -6, x -> x.back(asked));
        }
        WHOLE.staysNew("1 end", -1, x -> x.end(1));
        WHOLE.staysNew("1 heap", -2, x -> x.heap(0, 0, 0));
        WHOLE.staysNew("1 run", -2, x -> x.run(1, 1));
        WHOLE.staysNew("1 pass", -2, x -> x.pass(1));
    }

    // ---- feed and end ----

    private static void feedToTheLastByte() {
        PencilLine x = new PencilLine();
        for (int i = 1; i <= 80; i++) {
            CHECK.due("2 the twenty " + i, x.feed(0, 0, 0, 0, 0), 20 * i);
        }
        CHECK.due("2 a full tape has 1,600", x.count(10), 1600);
        CHECK.due("2 it would have 1,620", x.feed(0, 0, 0, 0, 0), -1);
        CHECK.due("2 it has 1,600 still", x.count(10), 1600);
        CHECK.due("2 cut to 1,580", x.end(1580), 1580);
        CHECK.due("2 just 1,600 again", x.feed(0, 0, 0, 0, 0), 1600);
    }

    /** Behind a refused twenty the tape has the text that it had, up to its last byte. */
    private static void feedBeyond() {
        for (int length : new int[] {1581, 1590, 1599, 1600}) {
            String text = FLOE + " ".repeat(length - FLOE.length() - 7) + "sees 1;";
            PencilLine x = new PencilLine();
            Check.tape(x, text);
            CHECK.due("2 behind " + length + " bytes", x.feed(0x3b3b3b3b, 0x3b3b3b3b, 0, 0, 0), -1);
            CHECK.due("2 none came behind " + length, x.count(10), length);
            CHECK.due("2 nor into the " + length, x.floe(), 2);
            CHECK.due("2 the text's end is read", x.watch(1), ALL / 100 * 99);
        }
        PencilLine y = new PencilLine();
        Check.tape(y, FLOE + " ".repeat(1580 - FLOE.length()));
        CHECK.due("2 behind 1,580 bytes", y.feed(0x20202020, 0x20202020, 0x20202020, 0x20736565, 0x7320313b), 1600);
        CHECK.due("2 they came", y.floe(), 2);
    }

    private static void feedBytes() {
        // "floe" "wide" "2dee" "p2pe" "ople"; "1day" "s1;  " and blanks: no blank is needed
        PencilLine x = new PencilLine();
        CHECK.due("2 the first twenty", x.feed(0x666c6f65, 0x20776964, 0x65326465, 0x65703270, 0x656f706c), 20);
        CHECK.due("2 the second", x.feed(0x65316461, 0x7973313b, 0x20200a0a, 0x0a202020, 0x20202020), 40);
        CHECK.due("2 the highest byte first", x.floe(), 1);
        CHECK.due("2 people", x.count(2), 1);
        int[][] bytes = {{0xff000000, 0}, {0x00ff0000, 0}, {0x20ff0000, 1}, {0x2020ff20, 2}, {0x202020ff, 3},
            {0x20202080, 3}, {0x80000000, 0}, {-1, 0}, {0x2020200b, 3}, {0x0a0a0a09, 3}, {0x20202021, 3},
            {0x2020201f, 3}};
        for (int[] b : bytes) {
            for (int number = 0; number < 5; number++) {
                PencilLine y = new PencilLine();
                int[] five = {0x20202020, 0x0a0a0a0a, 0x20202020, 0x0a202020, 0x20200a20};
                five[number] = b[0];
                y.feed(five[0], five[1], five[2], five[3], five[4]);
                CHECK.due("2 a byte that is no token", y.floe(), -4);
                CHECK.due("2 it is none", y.fault(0), 1);
                CHECK.due("2 number " + number + " of " + b[0], y.fault(1), 4 * number + b[1]);
            }
        }
    }

    private static void endWithin() {
        PencilLine x = new PencilLine();
        CHECK.due("3 0 of an empty tape", x.end(0), 0);
        Check.tape(x, FLOE + "sees 1;");
        CHECK.due("3 all it has", x.end(FLOE.length() + 7), FLOE.length() + 7);
        CHECK.due("3 stays so long", x.count(10), FLOE.length() + 7);
        CHECK.due("3 one less", x.end(FLOE.length() + 6), FLOE.length() + 6);
        CHECK.due("3 the sign is cut", x.floe(), -4);
        CHECK.due("3 where the end is", x.fault(1), FLOE.length() + 6);
        Check.tape(x, FLOE + "sees 1;");
        CHECK.due("3 its first bytes alone", x.end(FLOE.length()), FLOE.length());
        CHECK.due("3 feed comes behind them", x.feed(0x73656573, 0x20322020, 0x3b202020, 0x20202020, 0x20202020),
                FLOE.length() + 20);
        CHECK.due("3 both are read", x.floe(), 2);
        CHECK.due("3 the newer is", x.watch(1), ALL / 100 * 98);
        x.feed(0, 0, 0, 0, 0);
        CHECK.due("3 none of it", x.end(0), 0);
        CHECK.due("3 nothing on it", x.count(10), 0);
        PencilLine full = new PencilLine();
        for (int i = 0; i < 80; i++) {
            full.feed(0, 0, 0, 0, 0);
        }
        CHECK.due("3 1,601 of a full tape", full.end(1601), -1);
        CHECK.due("3 1,600 of it", full.end(1600), 1600);
        CHECK.due("3 1,599 of it", full.end(1599), 1599);
        CHECK.due("3 1,600 now", full.end(1600), -1);
    }

    private static void endBeyond() {
        int has = Whole.lived().count(10);
        for (int n : new int[] {-1, -2, LEAST, has + 1, has + 20, 1600, 1601, MOST}) {
            WHOLE.stays("3 end(" + n + ") of " + has, -1, x -> x.end(n));
        }
        WHOLE.stays("3 end(" + has + ") of " + has, has, x -> x.end(has));
    }

    // ---- floe ----

    private static void floeEmptyTape() {
        PencilLine x = new PencilLine();
        CHECK.due("4 no lines", x.floe(), 0);
        CHECK.due("4 no fault", x.fault(0), 0);
        for (String blanks : new String[] {" ", "\n", " \n \n", " ".repeat(1600)}) {
            CHECK.due("4 blanks alone", Check.floe(x, blanks), 0);
            CHECK.due("4 no fault of blanks", x.fault(0), 0);
            CHECK.due("4 no place of blanks", x.fault(1), -1);
            CHECK.due("4 no floe of blanks", x.pieces(0), -2);
        }
    }

    private static void floeTakesTheTape() {
        PencilLine x = Whole.lived();
        int slots = x.count(13);
        CHECK.due("4 the text on the tape", x.floe(), 2);
        CHECK.due("4 the tape is empty", x.count(10), 0);
        int[] counts = {2, 3, 4, 5, 0, 0, 0, 0, 0, 2, 0, 0, 4, slots};
        for (int what = 0; what < counts.length; what++) {
            CHECK.due("4 in place of another, count(" + what + ")", x.count(what), counts[what]);
        }
        CHECK.due("4 struck since floe()", x.struck(), 0);
        CHECK.due("4 slots stay", x.judge(0), 1);
        CHECK.due("4 image 0 stays", x.back(0), 0);
        CHECK.due("4 with its heaps", x.lies(7, 0), 5);
        CHECK.due("4 image 1 has nothing still", x.back(1), -6);
        CHECK.due("4 image 2 stays", x.back(2), 0);
        CHECK.due("4 with its floe", x.count(0), 3);
    }

    /** Whatever the draft had told ahead of the fault, nothing of it stands. */
    private static void floeFaultChangesNothing() {
        String bad = "floe wide 12 deep 12 people 28 days 60;crack down 1 odds 1 swell 1 warm 1 weight 1;"
                + "sort heat gives 9 tons 9 many 9;sea swell 9 warm 9;shuts 99;fetch 9 across 9;sees 99;"
                + "drift 99 land 1;breaks 99 crossing 99;other day 1 odds 9 breaks 9;";
        for (String end : new String[] {"sees 1;", "floe", "x", "sort", ";", "\u00e9", "crack down 12"}) {
            PencilLine x = Whole.lived();
            CHECK.due("4 a fault: " + end, Check.floe(x, bad + end), -4);
            CHECK.due("4 its tape is empty", x.count(10), 0);
            CHECK.due("4 wide stays", x.count(0), 6);
            CHECK.due("4 lines stay", x.count(9), 14);
            CHECK.due("4 cracks stay", x.count(4), 3);
            CHECK.due("4 sorts stay", x.count(5), 2);
            CHECK.due("4 others stay", x.count(6), 2);
            CHECK.due("4 heaps stay", x.count(7), 3);
            CHECK.due("4 hours stay", x.count(11), 40);
            CHECK.due("4 people that sleep stay", x.count(12), 8);
            CHECK.due("4 slots stay", x.count(13), 3);
            PencilLine y = Whole.lived();
            CHECK.due("4 the set stays", x.count(8), y.count(8));
            CHECK.due("4 struck stays", x.struck(), y.struck());
            for (int crack = 0; crack < 3; crack++) {
                CHECK.due("4 odds stay", x.odds(crack), y.odds(crack));
                CHECK.due("4 what was seen stays", x.seam(crack), y.seam(crack));
            }
            CHECK.due("4 sees stays", x.watch(1), y.watch(1));
            CHECK.due("4 shuts stays", x.part(2), y.part(2));
            CHECK.due("4 drift and land stay", x.miles(1, 7), y.miles(1, 7));
            CHECK.due("4 breaks and crossing stay", x.alive(1, 0, 0), y.alive(1, 0, 0));
            CHECK.due("4 fetch and across stay", x.minutes(7, 7, 0, 0), y.minutes(7, 7, 0, 0));
            CHECK.due("4 no image is kept", x.back(1), -6);
            CHECK.due("4 the tape stays empty", x.floe(), 0);
        }
        PencilLine none = new PencilLine();
        CHECK.due("4 a fault without a floe", Check.floe(none, bad + "x"), -4);
        CHECK.due("4 no floe still", none.count(0), 0);
        CHECK.due("4 no lines still", none.count(9), 0);
        CHECK.due("4 sees 50 still", none.watch(1), ALL / 2);
    }

    private static void floeFullTape() {
        PencilLine x = new PencilLine();
        String text = FLOE + " ".repeat(1600 - FLOE.length() - 7) + "sees 1;";
        CHECK.due("4 1,600 bytes", Check.floe(x, text), 2);
        CHECK.due("4 a fault at the last byte", Check.floe(x, text.substring(0, 1599) + "x"), -4);
        CHECK.due("4 its place", x.fault(1), 1599);
        CHECK.due("4 a fault at the end", Check.floe(x, text.substring(0, 1599) + "1"), -4);
        CHECK.due("4 the end's place", x.fault(1), 1600);
        CHECK.due("4 the end's fault", x.fault(0), 1);
        CHECK.due("4 as the last that was read", x.watch(1), ALL / 100 * 99);
    }

    // ---- the bounds of every number ----

    private static void number(String ahead, String behind, int least, int most) {
        for (int n : new int[] {least, most}) {
            PencilLine x = new PencilLine();
            int lines = (ahead + n + behind).split(";").length;
            CHECK.due("4 " + ahead + n, Check.floe(x, ahead + n + behind), lines);
            CHECK.due("4 zeros ahead " + ahead + n, Check.floe(x, ahead + "0000000000000" + n + behind), lines);
        }
        if (least > 0) {
            faulty(2, ahead.length(), ahead + (least - 1) + behind);
        }
        String[] above = {"" + (most + 1), "2147483648", "4294967296", "4294967297", "4294967306",
            "18446744073709551617", "9".repeat(300)};
        for (String n : above) {
            faulty(2, ahead.length(), ahead + n + behind);
            faulty(2, ahead.length(), ahead + "000" + n);
        }
        faulty(1, ahead.length(), ahead + "-1" + behind);
        faulty(1, ahead.length(), ahead + behind);
        faulty(1, ahead.length(), ahead + "x" + behind);
        faulty(1, ahead.length(), ahead);
    }

    private static void faulty(int fault, int place, String text) {
        PencilLine x = new PencilLine();
        CHECK.due("5 floe of " + text, Check.floe(x, text), -4);
        CHECK.due("5 fault of " + text, x.fault(0), fault);
        CHECK.due("5 place of " + text, x.fault(1), place);
        CHECK.due("4 empty tape behind " + text, x.count(10), 0);
        CHECK.due("4 no floe behind " + text, x.count(0), 0);
    }

    private static void faultyBehind(int fault, int place, String text) {
        faulty(fault, FLOE.length() + place, FLOE + text);
    }

    private static void numbers() {
        number("floe wide ", "deep 2 people 1 days 1;", 2, 12);
        number("floe wide 2 deep ", "people 1 days 1;", 2, 12);
        number("floe wide 2 deep 2 people ", "days 1;", 1, 28);
        number("floe wide 2 deep 2 people 1 days ", ";", 1, 60);
        for (String way : new String[] {"down ", "along "}) {
            String crack = FLOE + "crack " + way + "1 odds ";
            number(crack, "swell 1 warm 1 weight 1;", 0, 500);
            number(crack + "1 swell ", "warm 1 weight 1 old;", 0, 99);
            number(crack + "1 swell 1 warm ", "weight 1;", 0, 99);
            number(crack + "1 swell 1 warm 1 weight ", ";", 0, 99);
            number(crack + "1 swell 1 warm 1 weight ", "old;", 0, 99);
        }
        for (String kind : new String[] {"food", "beds", "seats", "heat"}) {
            String sort = FLOE + "sort " + kind + " gives ";
            number(sort, "tons 1 many 1;", 1, 99);
            number(sort + "1 tons ", "many 1;", 1, 99);
            number(sort + "1 tons 1 many ", ";", 0, 20);
        }
        number(FLOE + "sea swell ", "warm 1;", 0, 9);
        number(FLOE + "sea swell 1 warm ", ";", 0, 9);
        number(FLOE + "shuts ", ";", 0, 100);
        number(FLOE + "fetch ", "across 1;", 0, 60);
        number(FLOE + "fetch 1 across ", ";", 0, 60);
        number(FLOE + "sees ", ";", 0, 100);
        number(FLOE + "drift ", "land 1;", 0, 100);
        number(FLOE + "drift 1 land ", ";", 0, 60);
        number(FLOE + "breaks ", "crossing 1;", 0, 9999);
        number(FLOE + "breaks 1 crossing ", ";", 0, 9999);
        number(FLOE + "other day ", "odds 1 breaks 1;", 1, 60);
        number(FLOE + "other day 1 odds ", "breaks 1;", 0, 100);
        number(FLOE + "other day 1 odds 1 breaks ", ";", 0, 9999);
    }

    /** A crack down runs at 1 .. wide less 1, one along at 1 .. deep less 1. */
    private static void numbersByTheFloe() {
        String crack = "odds 1 swell 1 warm 1 weight 1;";
        for (int side = 2; side <= 12; side++) {
            int other = 14 - side;
            String floe = "floe wide " + side + " deep " + other + " people 1 days 1;crack ";
            number(floe + "down ", crack, 1, side - 1);
            number(floe + "along ", crack, 1, other - 1);
        }
    }

    /** The greatest numbers stand as they were told. */
    private static void numbersStand() {
        PencilLine x = Check.on("floe wide 12 deep 12 people 28 days 60;"
                + "crack down 11 odds 500 swell 0 warm 0 weight 0;crack along 11 odds 0 swell 99 warm 0 weight 0;"
                + "crack down 1 odds 0 swell 0 warm 99 weight 0;crack along 1 odds 0 swell 0 warm 0 weight 99;"
                + "sort food gives 99 tons 99 many 20;sea swell 9 warm 9;shuts 100;fetch 60 across 60;sees 100;"
                + "drift 100 land 60;breaks 9999 crossing 9999;other day 60 odds 100 breaks 9999;");
        x.heap(0, 11, 0);
        CHECK.due("4 many 20", x.put(0, 0, 20), 0);
        CHECK.due("4 gives 99", x.lacks(0, 0), 0);
        CHECK.due("4 tons 99", x.lies(0, 2), 1980);
        CHECK.due("4 odds 500", x.odds(0), 500);
        CHECK.due("4 swell 99 by 9", x.odds(1), 891);
        CHECK.due("4 warm 99 by 9", x.odds(2), 891);
        CHECK.due("4 weight 99", x.odds(3), 99 * 1980 / 100);
        CHECK.due("4 down 11", x.piece(1, 11, 0), 1);
        CHECK.due("4 down 11, ahead", x.piece(1, 10, 0), 0);
        CHECK.due("4 along 11", x.piece(2, 0, 11), 8);
        CHECK.due("4 along 11, ahead", x.piece(2, 0, 10), 0);
        CHECK.due("4 fetch 60 across 60", x.minutes(15, 0, 0, 0), 99 * 11 * 60 + 120);
        CHECK.due("4 sees 100", x.watch(1), 0);
        CHECK.due("4 drift 100", x.miles(1, 58), ALL);
        CHECK.due("4 land 60", x.miles(0, 60), ALL);
        CHECK.due("4 breaks 9999", x.alive(60, 0, 0), ALL / 10000);
        CHECK.due("4 breaks 9999 of an other", x.alive(60, 1, 1), ALL / 10000);
        CHECK.due("4 day 60", x.alive(59, 0, 0), ALL / 100000000);
        x.open(1);
        CHECK.due("4 shuts 100", x.part(1), 0);
    }

    /** Without the six lines, as they are told without them, also behind a floe that told them. */
    private static void linesNotTold() {
        String text = "floe wide 6 deep 4 people 4 days 1;crack down 3 odds 10 swell 99 warm 99 weight 0;"
                + "sort food gives 1 tons 2 many 3;other day 1 odds 0 breaks 50;other day 1 odds 0 breaks 49;";
        PencilLine told = Check.on(text + "sea swell 9 warm 9;shuts 90;fetch 9 across 9;sees 90;drift 90 land 9;"
                + "breaks 90 crossing 9;");
        told.heap(0, 1, 1);
        told.open(1);
        told.saw(0);
        told.pass(50);
        told.sleep(0, 2, 2, 0);
        told.sleep(3, 5, 3, 1);
        Check.floe(told, text);
        for (PencilLine x : new PencilLine[] {Check.on(text), told}) {
            CHECK.due("4 no heap", x.count(7), 0);
            CHECK.due("4 no crack is open", x.count(8), 0);
            CHECK.due("4 all sleep", x.count(12), 4);
            CHECK.due("4 sea 0 0", x.odds(0), 10);
            CHECK.due("4 nothing was seen or watched", x.seam(0), 10);
            CHECK.due("4 sees 50", x.watch(1), ALL / 2);
            CHECK.due("4 drift 50", x.miles(1, 18), ALL / 2);
            CHECK.due("4 and farther", x.miles(1, 21), ALL / 2);
            CHECK.due("4 land 20", x.miles(0, 20), ALL);
            CHECK.due("4 breaks 0", x.alive(1, 0, 0), ALL);
            CHECK.due("4 crossing 0", x.alive(1, 1, 3), ALL / 10000 * 9951);
            CHECK.due("4 crossing 0 is no hindrance", x.go(1, 1, 3), 2);
            x.heap(0, 5, 3);
            for (int group = 0; group < 4; group++) {
                CHECK.due("4 fetch 1 across 5, group " + group + " at 0, 0", x.minutes(1, 0, 0, group), 21);
            }
            CHECK.due("4 group 0 has all", x.sleep(0, 0, 0, 0), 0);
            x.open(1);
            CHECK.due("4 shuts 0", x.part(1), ALL);
        }
    }

    // ---- words ----

    private static void words() {
        String[] lines = {"crack down 1 odds 1 swell 1 warm 1 weight 1 old;", "crack along 1 odds 1 swell 1 warm 1 weight 1;",
            "sort food gives 1 tons 1 many 1;", "sea swell 1 warm 1;", "shuts 1;", "fetch 1 across 1;", "sees 1;",
            "drift 1 land 1;", "breaks 1 crossing 1;", "other day 1 odds 1 breaks 1;"};
        for (String line : lines) {
            wordsOf(FLOE.length(), FLOE, line);
            CHECK.due("4 " + line, Check.floe(new PencilLine(), FLOE + line), 2);
            CHECK.due("4 " + line + " by lines", Check.floe(new PencilLine(), FLOE + line.replace(' ', '\n')), 2);
            faulty(1, 0, line);
        }
        wordsOf(0, "", FLOE);
        for (String line : lines) {
            faultyBehind(1, line.length(), line + FLOE);
        }
    }

    /** Each word of the line left out, in great letters, cut, longer, and each sign left out. */
    private static void wordsOf(int place, String ahead, String line) {
        String[] tokens = line.substring(0, line.length() - 1).split(" ");
        int at = 0;
        for (String token : tokens) {
            if (token.charAt(0) >= 'a' && !token.equals("old")) {
                String front = ahead + line.substring(0, at);
                String back = line.substring(at + token.length());
                faulty(1, place + at, front + token.toUpperCase() + back);
                faulty(1, place + at, front + token.substring(1) + back);
                faulty(1, place + at, front + token.substring(0, token.length() - 1) + back);
                faulty(1, place + at, front + token + "a" + back);
                faulty(1, place + at, front + ";" + back);
                if (at > 0) {
                    faulty(1, place + at, front);
                }
            }
            leftOutOrTwice(place, ahead, line, at, token);
            at += token.length() + 1;
        }
        faulty(1, place + line.length() - 1, ahead + line.substring(0, line.length() - 1));
        faulty(1, place + line.length() - 1, ahead + line.substring(0, line.length() - 1) + "#");
        faulty(1, place + line.length(), ahead + line + ";");
    }

    /** A word or a number left out: what follows can't stand there. Twice: the second can't. */
    private static void leftOutOrTwice(int place, String ahead, String line, int at, String token) {
        String front = ahead + line.substring(0, at);
        String back = line.substring(at + token.length());
        if (!token.equals("old")) {
            faulty(1, place + at + (back.charAt(0) == ' ' ? 1 : 0), front + back);
        }
        faulty(1, place + at + token.length() + 1, front + token + " " + token + back);
    }

    // ---- as many lines as there may be ----

    private static void linesAtMost() {
        String[] lines = {"crack down 1 odds 0 swell 0 warm 0 weight 0;", "sort food gives 1 tons 1 many 1;",
            "other day 1 odds 1 breaks 1;"};
        int[] most = {7, 6, 4};
        for (int i = 0; i < 3; i++) {
            PencilLine x = new PencilLine();
            String full = FLOE + lines[i].repeat(most[i]);
            CHECK.due("4 so many " + lines[i], Check.floe(x, full), 1 + most[i]);
            CHECK.due("4 are counted", x.count(4 + i), most[i]);
            CHECK.due("5 one more " + lines[i], Check.floe(x, full + lines[i]), -4);
            CHECK.due("5 is fault 3", x.fault(0), 3);
            CHECK.due("5 at its word", x.fault(1), full.length());
            CHECK.due("4 the fuller floe stays", x.count(4 + i), most[i]);
            CHECK.due("5 the word alone does", Check.floe(x, full + "\n" + lines[i].substring(0, 5).trim()), -4);
            CHECK.due("5 fault 3 of it", x.fault(0), 3);
            CHECK.due("5 at the word alone", x.fault(1), full.length() + 1);
            String others = full + lines[(i + 1) % 3] + lines[(i + 2) % 3];
            CHECK.due("4 the other kinds may follow", Check.floe(x, others), 3 + most[i]);
            faulty(3, others.length(), others + lines[i] + "x");
        }
        // a fault ahead of the word is the first
        faultyBehind(2, 7 * 44 + 16, lines[0].repeat(7) + "sort food gives 0 " + lines[0]);
        faultyBehind(1, 7 * 44, lines[0].repeat(7) + ";" + lines[0]);
    }

    private static void linesOnce() {
        String[] once = {"sea swell 1 warm 1;", "shuts 1;", "fetch 1 across 1;", "sees 1;", "drift 1 land 1;",
            "breaks 1 crossing 1;"};
        StringBuilder all = new StringBuilder();
        for (String line : once) {
            all.append(line);
        }
        CHECK.due("4 each of the six once", Check.floe(new PencilLine(), FLOE + all), 7);
        for (String line : once) {
            String word = line.substring(0, line.indexOf(' '));
            faultyBehind(2, all.length(), all + line);
            faultyBehind(2, all.length() + 1, all + "\n" + word);
            faultyBehind(2, line.length(), line + word + " x");
            // each floe tells them anew
            PencilLine x = new PencilLine();
            CHECK.due("4 told", Check.floe(x, FLOE + line), 2);
            CHECK.due("4 told in the next floe", Check.floe(x, FLOE + line), 2);
            CHECK.due("4 told twice there", Check.floe(x, FLOE + line + line), -4);
            CHECK.due("4 told behind that", Check.floe(x, FLOE + line), 2);
        }
        // the same words within other lines are not told by them
        CHECK.due("4 breaks of an other is not breaks", Check.floe(new PencilLine(),
                FLOE + "other day 1 odds 1 breaks 1;breaks 1 crossing 1;other day 1 odds 1 breaks 1;"), 4);
    }

    // ---- faults ----

    private static void faultWhat() {
        for (int what : new int[] {-1, 2, 3, LEAST, MOST}) {
            WHOLE.stays("5 fault(" + what + ")", -1, x -> x.fault(what));
            WHOLE.staysNew("5 fault(" + what + ")", -1, x -> x.fault(what));
        }
        WHOLE.stays("5 fault(0)", 2, x -> x.fault(0));
        WHOLE.stays("5 fault(1)", 10, x -> x.fault(1));
        WHOLE.staysNew("5 fault(0)", 0, x -> x.fault(0));
        WHOLE.staysNew("5 fault(1)", -1, x -> x.fault(1));
    }

    private static void faultOfTheLatest() {
        PencilLine x = new PencilLine();
        Check.tape(x, "floe wide 1");
        CHECK.due("5 ahead of any floe(), its text on the tape", x.fault(0), 0);
        CHECK.due("5 ahead of any floe(), no place", x.fault(1), -1);
        x.floe();
        x.feed(0, 0, 0, 0, 0);
        x.end(3);
        x.keep(0);
        x.back(0);
        CHECK.due("5 it stays over the tape and images", x.fault(0), 2);
        CHECK.due("5 so does its place", x.fault(1), 10);
        Check.floe(x, "");
        CHECK.due("5 0 behind an empty tape", x.fault(0), 0);
        CHECK.due("5 no place behind an empty tape", x.fault(1), -1);
        Check.floe(x, FLOE + "x");
        CHECK.due("5 the newer", x.fault(0), 1);
        CHECK.due("5 the newer's place", x.fault(1), FLOE.length());
        Check.floe(x, FLOE);
        CHECK.due("5 0 without", x.fault(0), 0);
        CHECK.due("5 NONE without", x.fault(1), -1);
        Check.floe(x, "x");
        CHECK.due("5 at the first byte", x.fault(1), 0);
    }

    private static void faultPlaces() {
        faulty(1, 0, "x");
        faulty(1, 2, "\n x");
        faulty(1, 4, "floe");
        faulty(1, 8, "floe  \n ");
        faulty(1, 0, "floefloe");
        faulty(2, 13, "floe   wide  0013 deep");
        faulty(1, FLOE.length() - 1, FLOE.substring(0, FLOE.length() - 1));
        faulty(1, FLOE.length() + 2, FLOE.substring(0, FLOE.length() - 1) + " \n ");
        faultyBehind(1, 2, "  floe");
        faultyBehind(1, 0, "wide 3;");
        faultyBehind(1, 0, "old;");
        faultyBehind(1, 0, "1;");
        faultyBehind(1, 44, "crack down 1 odds 1 swell 1 warm 1 weight 1 down;");
        faultyBehind(1, 47, "crack down 1 odds 1 swell 1 warm 1 weight 1 old1;");
        faultyBehind(1, 48, "crack down 1 odds 1 swell 1 warm 1 weight 1 old old;");
        faultyBehind(1, 43, "crack down 1 odds 1 swell 1 warm 1 weight 1");
        faultyBehind(1, 47, "crack down 1 odds 1 swell 1 warm 1 weight 1 old");
        for (int sign = 0; sign < 256; sign++) {
            char c = (char) sign;
            boolean blank = c == ' ' || c == '\n';
            boolean token = c >= 'a' && c <= 'z' || c >= '0' && c <= '9' || c == ';';
            if (blank) {
                CHECK.due("4 a blank " + sign, Check.floe(new PencilLine(), FLOE + c), 1);
            } else if (!token) {
                faultyBehind(1, 0, c + "");
                faultyBehind(1, 5, "sees " + c + "1;");
                faultyBehind(1, 6, "sees 1" + c + ";");
            } else {
                faultyBehind(1, 0, c + "");
            }
        }
    }

    private static void faultFirst() {
        faultyBehind(2, 5, "sees 101 #");
        faultyBehind(1, 5, "sees # 101");
        faultyBehind(1, 4, "sees#101");
        faultyBehind(2, 5, "sees 101x");
        faultyBehind(1, 6, "sees 1x");
        faultyBehind(1, 7, "sees 1 1;");
        faultyBehind(2, 11, "crack down 9 odds 999 swell 999;");
        faultyBehind(2, 18, "crack down 1 odds 999 swell 999;");
        faultyBehind(1, 6, "crack odds 999 swell 999;");
        faultyBehind(2, 7, "sees 1;sees sees;");
    }
}
