/** Promises 1 to 5: a new object, the tape, the floe and its faults. */
public final class FloeTest {
    private static final String FLOE = "floe wide 6 deep 4 people 4 days 10;";
    private static final Check CHECK = new Check("FloeTest");

    public static void main(String[] args) {
        newObject();
        feed();
        end();
        floe();
        floeInPlace();
        defaults();
        faultAtStart();
        faultOne();
        faultTwo();
        faultThree();
        CHECK.finish();
    }

    private static void newObject() {
        PencilLine x = new PencilLine();
        CHECK.due("1 NONE", PencilLine.NONE, -1);
        for (int what = 0; what <= 13; what++) {
            CHECK.due("1 count(" + what + ")", x.count(what), 0);
        }
        CHECK.due("1 pieces", x.pieces(0), -2);
        CHECK.due("1 open", x.open(0), -2);
        CHECK.due("1 sleep", x.sleep(0, 0, 0, 0), -2);
        CHECK.due("1 heap to nowhere", x.heap(0, 0, 0), -2);
        CHECK.due("1 heap off", x.heap(0, -1, 0), 0);
        CHECK.due("1 watch as without sees", x.watch(2), 250000000000L);
        for (int heap = 0; heap < 8; heap++) {
            CHECK.due("1 no heap " + heap, x.lies(heap, 0), -1);
        }
        CHECK.due("1 pass", x.pass(0), -2);
        CHECK.due("1 image", x.back(0), -6);
        CHECK.due("1 struck", x.struck(), 0);
    }

    private static void feed() {
        PencilLine x = new PencilLine();
        for (int i = 1; i <= 80; i++) {
            CHECK.due("2 feed " + i, x.feed(1, 2, 3, 4, 5), 20 * i);
        }
        CHECK.due("2 feed over", x.feed(1, 2, 3, 4, 5), -1);
        CHECK.due("2 none came", x.count(10), 1600);
        CHECK.due("2 end", x.end(1580), 1580);
        CHECK.due("2 feed last", x.feed(0, 0, 0, 0, 0), 1600);
        x.end(1581);
        CHECK.due("2 feed one over", x.feed(0, 0, 0, 0, 0), -1);
        CHECK.due("2 none came either", x.count(10), 1581);
        // 'f' 'l' 'o' 'e', the highest byte first, and bytes above 127
        PencilLine y = new PencilLine();
        y.feed(0x666c6f65, 0x20776964, 0x65203380, 0xff000000, 0);
        CHECK.due("2 byte above 127", y.floe(), -4);
        CHECK.due("2 its place", y.fault(1), 11);
    }

    private static void end() {
        PencilLine x = new PencilLine();
        CHECK.due("3 end of nothing", x.end(0), 0);
        CHECK.due("3 end over", x.end(1), -1);
        CHECK.due("3 end below 0", x.end(-1), -1);
        x.feed(1, 2, 3, 4, 5);
        CHECK.due("3 end over", x.end(21), -1);
        CHECK.due("3 stays", x.count(10), 20);
        CHECK.due("3 end of all", x.end(20), 20);
        CHECK.due("3 end within", x.end(7), 7);
        CHECK.due("3 is cut", x.count(10), 7);
        CHECK.due("3 fed behind", x.feed(1, 2, 3, 4, 5), 27);
        CHECK.due("3 least", x.end(Integer.MIN_VALUE), -1);
        CHECK.due("3 most", x.end(Integer.MAX_VALUE), -1);
    }

    private static void floe() {
        PencilLine x = new PencilLine();
        String all = "floe wide 12 deep 2 people 28 days 60;crack down 11 odds 500 swell 99 warm 0"
                + " weight 99 old;crack along 1 odds 0 swell 0 warm 99 weight 0;"
                + "sort food gives 99 tons 1 many 20;sort beds gives 1 tons 99 many 0;"
                + "sort seats gives 2 tons 2 many 2;sort heat gives 3 tons 3 many 3;"
                + "sea swell 9 warm 0;shuts 100;fetch 60 across 0;sees 0;drift 100 land 60;"
                + "breaks 9999 crossing 0;other day 60 odds 100 breaks 9999;";
        CHECK.due("4 all lines", Check.floe(x, all), 14);
        CHECK.due("4 tape is empty", x.count(10), 0);
        int[] counts = {12, 2, 28, 60, 2, 4, 1, 0, 0, 14, 0, 0, 28, 0};
        for (int i = 0; i < counts.length; i++) {
            CHECK.due("4 count(" + i + ")", x.count(i), counts[i]);
        }
        CHECK.due("4 no fault", x.fault(0), 0);
        CHECK.due("4 tokens need no blanks",
                Check.floe(x, "floe\nwide6deep4people4days010;crack down3odds1swell1warm1weight1old;"), 2);
        CHECK.due("4 old", x.odds(0), 2);
        CHECK.due("4 zeros ahead", x.count(3), 10);
        CHECK.due("4 blanks behind", Check.floe(x, FLOE + " \n \n "), 1);
        CHECK.due("4 lines in any order", Check.floe(x, FLOE + "breaks 0 crossing 9999;sea swell 0 warm 9;"
                + "other day 1 odds 0 breaks 0;crack down 1 odds 0 swell 0 warm 0 weight 0;sees 100;"), 6);
        StringBuilder most = new StringBuilder(FLOE);
        for (int i = 0; i < 7; i++) {
            most.append("crack down 5 odds 0 swell 0 warm 0 weight 0;");
        }
        for (int i = 0; i < 6; i++) {
            most.append("sort heat gives 1 tons 1 many 1;");
        }
        for (int i = 0; i < 4; i++) {
            most.append("other day 1 odds 1 breaks 1;");
        }
        CHECK.due("4 most lines", Check.floe(x, most.toString()), 18);
        CHECK.due("4 most cracks", x.count(4), 7);
        CHECK.due("4 most sorts", x.count(5), 6);
        CHECK.due("4 most others", x.count(6), 4);
    }

    private static void floeInPlace() {
        PencilLine x = Check.on(FLOE + "crack down 3 odds 10 swell 0 warm 0 weight 0;"
                + "sort food gives 1 tons 1 many 3;sees 20;");
        x.row(1, 0, 2);
        x.heap(2, 1, 1);
        x.put(2, 0, 2);
        x.heap(0, 1, 1);
        x.heap(7, 1, 1);
        x.put(0, 0, 1);
        x.open(1);
        x.saw(0);
        x.pass(9);
        x.sleep(0, 2, 2, 3);
        x.run(1, 0);
        x.keep(1);
        CHECK.due("4 fault", Check.floe(x, "floe wide 6;"), -4);
        CHECK.due("4 tape is empty", x.count(10), 0);
        CHECK.due("4 all else stays", x.lies(2, 3), 2);
        CHECK.due("4 set stays", x.count(8), 1);
        CHECK.due("4 hours stay", x.count(11), 9);
        CHECK.due("4 lines stay", x.count(9), 4);
        CHECK.due("4 people stay", x.count(12), 3);
        CHECK.due("4 another", Check.floe(x, "floe wide 3 deep 3 people 2 days 1;"), 1);
        CHECK.due("4 no heap", x.count(7), 0);
        CHECK.due("4 not the first", x.lies(0, 0), -1);
        CHECK.due("4 not the last", x.lies(7, 0), -1);
        CHECK.due("4 no set", x.count(8), 0);
        CHECK.due("4 nothing seen", x.count(11), 0);
        CHECK.due("4 all sleep at 0, 0", x.count(12), 2);
        CHECK.due("4 group 1 has none", x.sleep(1, 2, 2, 1), -3);
        CHECK.due("4 defaults again", x.watch(1), 500000000000L);
        CHECK.due("4 slots stay", x.count(13), 1);
        CHECK.due("4 images stay", x.back(1), 0);
        CHECK.due("4 as kept", x.lies(2, 3), 2);
        CHECK.due("4 empty tape", x.floe(), 0);
        for (int what = 0; what <= 12; what++) {
            CHECK.due("4 no floe then, count(" + what + ")", x.count(what), 0);
        }
        CHECK.due("4 no set", x.pieces(0), -2);
        CHECK.due("4 as without sees", x.watch(1), 500000000000L);
        CHECK.due("4 blanks alone", Check.floe(x, " \n "), 0);
    }

    private static void defaults() {
        PencilLine x = Check.on(FLOE + "crack down 3 odds 10 swell 99 warm 99 weight 0;"
                + "sort food gives 1 tons 2 many 3;other day 1 odds 0 breaks 0;");
        CHECK.due("4 sea 0 0", x.odds(0), 10);
        x.open(1);
        CHECK.due("4 shuts 0", x.part(1), 1000000000000L);
        x.heap(0, 5, 0);
        CHECK.due("4 fetch 1 across 5", x.minutes(1, 0, 0, 0), 15);
        CHECK.due("4 sees 50", x.watch(1), 500000000000L);
        CHECK.due("4 drift 50", x.miles(1, 18), 500000000000L);
        CHECK.due("4 land 20", x.miles(0, 20), 1000000000000L);
        CHECK.due("4 breaks 0", x.alive(1, 0, 0), 1000000000000L);
        CHECK.due("4 crossing 0", x.go(1, 0, 1), 0);
        // what an earlier floe told is told no more
        String crack = "crack down 3 odds 10 swell 9 warm 9 weight 0;";
        PencilLine y = Check.on(FLOE + crack + "sort food gives 1 tons 2 many 3;other day 1 odds 0 breaks 1;"
                + "sea swell 9 warm 9;shuts 90;fetch 9 across 9;sees 90;drift 90 land 9;breaks 90 crossing 9;");
        y.sleep(0, 0, 0, 1);
        y.sleep(1, 5, 3, 3);
        y.saw(0);
        y.pass(50);
        Check.floe(y, FLOE + crack + "sort food gives 1 tons 2 many 3;other day 1 odds 0 breaks 0;");
        CHECK.due("4 sea 0 0 again", y.odds(0), 10);
        CHECK.due("4 nothing seen", y.seam(0), 10);
        y.open(1);
        CHECK.due("4 shuts 0 again", y.part(0), 0);
        y.heap(0, 5, 0);
        CHECK.due("4 fetch 1 across 5 again", y.minutes(1, 0, 0, 0), 15);
        CHECK.due("4 the others at 0, 0", y.across(1, 0, 1), 1);
        CHECK.due("4 sees 50 again", y.watch(1), 500000000000L);
        CHECK.due("4 drift 50 land 20 again", y.miles(1, 18), 500000000000L);
        CHECK.due("4 breaks 0 again", y.alive(1, 0, 0), 1000000000000L);
        Check.floe(y, FLOE + "breaks 9 crossing 9999;");
        Check.floe(y, FLOE + "other day 1 odds 0 breaks 50;other day 1 odds 0 breaks 49;");
        CHECK.due("4 crossing 0 again", y.go(10, 1, 3), 2);
    }

    private static void faultAtStart() {
        PencilLine x = new PencilLine();
        CHECK.due("5 ahead of any", x.fault(0), 0);
        CHECK.due("5 ahead of any, place", x.fault(1), -1);
        CHECK.due("5 another what", x.fault(2), -1);
        CHECK.due("5 another what", x.fault(-1), -1);
        fault(1, 5, "floe #");
        Check.floe(x, "floe wide 1");
        CHECK.due("5 fault", x.fault(0), 2);
        CHECK.due("5 place", x.fault(1), 10);
        CHECK.due("5 another what still", x.fault(2), -1);
        Check.floe(x, FLOE);
        CHECK.due("5 of the latest", x.fault(0), 0);
        CHECK.due("5 of the latest", x.fault(1), -1);
    }

    private static void fault(int fault, int place, String text) {
        PencilLine x = new PencilLine();
        CHECK.due("5 floe of " + text, Check.floe(x, text), -4);
        CHECK.due("5 fault of " + text, x.fault(0), fault);
        CHECK.due("5 place of " + text, x.fault(1), place);
        CHECK.due("5 empty tape of " + text, x.count(10), 0);
    }

    private static void faultBehind(int fault, int place, String text) {
        fault(fault, FLOE.length() + place, FLOE + text);
    }

    private static void faultOne() {
        fault(1, 0, "crack down 1");
        fault(1, 0, ";");
        fault(1, 0, "12");
        fault(1, 1, " Floe wide");
        fault(1, 0, "floes wide 3");
        fault(1, 0, "flo wide 3");
        fault(1, 0, "\t");
        fault(1, 4, "floe");
        fault(1, 7, "floe  \n");
        fault(1, 5, "floe deep 3");
        fault(1, 10, "floe wide ;");
        fault(1, 10, "floe wide x");
        fault(1, 12, "floe wide 3 3");
        fault(1, 35, "floe wide 6 deep 4 people 4 days 10");
        fault(1, 36, "floe wide 6 deep 4 people 4 days 10 ");
        fault(1, 36, "floe wide 6 deep 4 people 4 days 10 x");
        faultBehind(1, 0, "floe wide 6 deep 4 people 4 days 10;");
        faultBehind(1, 1, " ;");
        faultBehind(1, 0, "\u00e9");
        faultBehind(1, 0, "\u0000");
        faultBehind(1, 6, "crack 1 down");
        faultBehind(1, 6, "crack across 1");
        faultBehind(1, 13, "crack along 3warm 2");
        faultBehind(1, 5, "sort wood gives 1 tons 1 many 1;");
        faultBehind(1, 32, "sort food gives 1 tons 1 many 1 old;");
        faultBehind(1, 46, "crack down 1 odds 1 swell 1 warm 1 weight 1   young;");
        faultBehind(1, 47, "crack down 1 odds 1 swell 1 warm 1 weight 1 old");
        faultBehind(1, 48, "crack down 1 odds 1 swell 1 warm 1 weight 1 old old;");
        faultBehind(1, 5, "sees swell 1;");
        faultBehind(1, 5, "sees -1;");
        faultBehind(1, 7, "fetch 1;");
        faultBehind(1, 6, "shuts ");
        faultBehind(1, 5, "sees ;");
        faultBehind(1, 0, "seesz 1;");
        faultBehind(1, 0, "z;");
        faultBehind(1, 4, "sort;");
        faultBehind(1, 5, "crack;");
        faultBehind(1, 10, "sort food ;");
        faultBehind(1, 6, "other odds 1 breaks 1;");
        faultBehind(1, 18, "crack down 1 odds swell 1 warm 1 weight 1;");
    }

    private static void faultTwo() {
        fault(2, 10, "floe wide 13 deep 4 people 4 days 10;");
        fault(2, 10, "floe wide 99999999999999999999999 #");
        fault(2, 10, "floe wide 4294967299 deep 3");
        fault(2, 18, "floe wide 12 deep 1 people 4 days 10;");
        fault(2, 27, "floe wide 12 deep 2 people 0 days 10;");
        fault(2, 27, "floe wide 12 deep 2 people 29 days 10;");
        fault(2, 35, "floe wide 12 deep 2 people 28 days 61;");
        fault(2, 35, "floe wide 12 deep 2 people 28 days 0;");
        faultBehind(2, 11, "crack down 0 odds 0");
        faultBehind(2, 11, "crack down 6 odds 0");
        faultBehind(2, 12, "crack along 4 odds 0");
        faultBehind(2, 19, "crack along 3 odds 501 swell");
        faultBehind(2, 24, "crack down 1odds 1 swell100");
        faultBehind(2, 32, "crack down 1 odds 1 swell1 warm 100");
        faultBehind(2, 42, "crack down 1 odds 1 swell 1 warm 1 weight 100;");
        faultBehind(2, 16, "sort food gives 0 tons");
        faultBehind(2, 16, "sort food gives 100 tons");
        faultBehind(2, 23, "sort food gives 1 tons 0 many 21");
        faultBehind(2, 23, "sort food gives 1 tons 100 many 21");
        faultBehind(2, 18, "crack down 1 odds 501 swell");
        faultBehind(2, 33, "crack down 1 odds 0 swell 0 warm 100 weight");
        faultBehind(2, 36, "crack along 1 odds 500 swell 0 warm 100");
        faultBehind(2, 30, "sort food gives 1 tons 1 many 21");
        faultBehind(2, 10, "sea swell 10 warm 1;");
        faultBehind(2, 17, "sea swell 9 warm 10;");
        faultBehind(2, 6, "shuts 101;");
        faultBehind(2, 6, "fetch 61 across 1;");
        faultBehind(2, 16, "fetch 60 across 61;");
        faultBehind(2, 5, "sees 101;");
        faultBehind(2, 6, "drift 101 land 3;");
        faultBehind(2, 14, "drift 99 land 61;");
        faultBehind(2, 7, "breaks 10000 crossing 3;");
        faultBehind(2, 21, "breaks 9999 crossing 10000;");
        faultBehind(2, 10, "other day 0 odds 1 breaks 1;");
        faultBehind(2, 10, "other day 61 odds 1 breaks 1;");
        faultBehind(2, 18, "other day 60 odds 101 breaks 1;");
        faultBehind(2, 29, "other day 60 odds 100 breaks 10000;");
        String[] once = {"sea swell 1 warm 1;", "shuts 1;", "fetch 1 across 1;", "sees 1;", "drift 1 land 1;",
            "breaks 1 crossing 1;"};
        for (String line : once) {
            faultBehind(2, line.length(), line + line);
            faultBehind(2, line.length(), line + line.substring(0, line.indexOf(' ')));
        }
    }

    private static void faultThree() {
        String[] lines = {"crack down 1 odds 0 swell 0 warm 0 weight 0;", "sort food gives 1 tons 1 many 1;",
            "other day 1 odds 1 breaks 1;"};
        int[] most = {7, 6, 4};
        for (int i = 0; i < 3; i++) {
            String all = lines[i].repeat(most[i]);
            faultBehind(3, all.length() + 1, all + " " + lines[i]);
            faultBehind(3, all.length(), all + lines[i].substring(0, 5).trim());
            faultBehind(1, all.length(), all + "x" + lines[i]);
        }
    }
}
