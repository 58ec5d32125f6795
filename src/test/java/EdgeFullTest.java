import java.util.ArrayList;
import java.util.List;

/**
 * As much of everything as there may be: the last crack, sort, other, heap, group, slot and image are laid,
 * taken away, kept and gone back to as the first are (promises 4, 6, 7, 22, 52, 53).
 */
public final class EdgeFullTest {
    private static final Check CHECK = new Check("EdgeFullTest");
    private static final String[] KINDS = {"food", "beds", "seats", "heat", "beds", "food"};
    private static final String TEXT = text();

    public static void main(String[] args) {
        fullFloe();
        heapsOff();
        layingsTakeUpAll();
        floeAnew();
        floeOfLess();
        floeOfLessGoing();
        imagesOfAll();
        imagesApart();
        imageOfLess();
        CHECK.finish();
    }

    private static String text() {
        StringBuilder text = new StringBuilder("floe wide 12 deep 12 people 28 days 60;");
        for (int crack = 0; crack < 7; crack++) {
            text.append("crack ").append(crack % 2 == 0 ? "down " : "along ").append(11 - crack).append(" odds ")
                    .append(10 + crack).append(" swell ").append(crack).append(" warm ").append(6 - crack)
                    .append(" weight ").append(90 + crack).append(crack % 3 == 0 ? " old;" : ";");
        }
        for (int sort = 0; sort < 6; sort++) {
            text.append("sort ").append(KINDS[sort]).append(" gives ").append(20 + sort).append(" tons ")
                    .append(30 + sort).append(" many ").append(15 + sort).append(";");
        }
        for (int other = 0; other < 4; other++) {
            text.append("other day ").append(1 + 2 * other).append(" odds ").append(60 + other).append(" breaks ")
                    .append(other).append(";");
        }
        return text.append("sea swell 1 warm 2;shuts 3;fetch 4 across 5;sees 6;drift 7 land 8;breaks 9 crossing 10;")
                .toString();
    }

    private static int unitsOf(int heap, int sort) {
        return (heap + sort) % 3;
    }

    private static PencilLine full() {
        PencilLine x = Check.on(TEXT);
        settle(x);
        return x;
    }

    /** Each heap on a row of its own, each group on a cell of its own; crack c was seen c + 1 times. */
    private static void settle(PencilLine x) {
        for (int heap = 0; heap < 8; heap++) {
            x.heap(heap, 11 - heap, heap + 2);
            for (int sort = 0; sort < 6; sort++) {
                x.put(heap, sort, unitsOf(heap, sort));
            }
        }
        for (int group = 0; group < 4; group++) {
            x.sleep(group, 2 * group, 11 - group, 4 + 2 * group);
        }
        for (int crack = 0; crack < 7; crack++) {
            for (int i = 0; i <= crack; i++) {
                x.saw(crack);
            }
        }
        x.pass(99);
        x.open(85);
    }

    /** All that can be heard of a camp, but the tape, the slots and struck(); nothing is changed by it. */
    private static List<Long> told(PencilLine x) {
        List<Long> told = new ArrayList<>();
        for (int what = 0; what < 13; what++) {
            told.add(what == 10 ? 0L : x.count(what));
        }
        for (int heap = 0; heap < 8; heap++) {
            for (int what = 0; what < 9; what++) {
                told.add((long) x.lies(heap, what));
            }
            for (int group = 0; group < 4; group++) {
                told.add((long) x.minutes(127, heap, 5, group));
            }
        }
        for (int crack = 0; crack < 7; crack++) {
            told.add((long) x.odds(crack));
            told.add((long) x.seam(crack));
        }
        for (int set = 0; set < 128; set++) {
            told.add((long) x.lacks(set, set % 4));
        }
        told.add(x.part(127));
        told.add(x.part(85));
        told.add(x.watch(1));
        told.add(x.miles(3, 11));
        told.add(x.alive(49, 0, 0));
        told.add(x.alive(53, 4, 8));
        told.add((long) x.go(60, 4, 15));
        return told;
    }

    private static void same(String what, List<Long> now, List<Long> due) {
        CHECK.due(what + ": so many answers", now.size(), due.size());
        for (int i = 0; i < due.size(); i++) {
            CHECK.due(what + ", answer " + i, now.get(i), due.get(i));
        }
    }

    private static void fullFloe() {
        PencilLine x = full();
        int[] counts = {12, 12, 28, 60, 7, 6, 4, 8, 85, 24, 0, 99, 28, 0};
        for (int what = 0; what < counts.length; what++) {
            CHECK.due("51 count(" + what + ")", x.count(what), counts[what]);
        }
        for (int heap = 0; heap < 8; heap++) {
            int tons = 0;
            for (int sort = 0; sort < 6; sort++) {
                CHECK.due("10 heap " + heap + ", sort " + sort, x.lies(heap, 3 + sort), unitsOf(heap, sort));
                tons += unitsOf(heap, sort) * (30 + sort);
            }
            CHECK.due("10 tons of heap " + heap, x.lies(heap, 2), tons);
        }
        for (int crack = 0; crack < 7; crack++) {
            int odds = 10 + crack + crack + 2 * (6 - crack) + (90 + crack) * x.near(crack) / 100;
            odds = crack % 3 == 0 ? 2 * odds : odds;
            CHECK.due("12 crack " + crack, x.odds(crack), odds);
            CHECK.due("47 crack " + crack, x.seam(crack), (100 * odds + 10000 * (crack + 1)) / 199);
        }
        CHECK.due("31 the last other, on its last day", x.alive(60, 4, 8), 999700000000L);
    }

    /** A heap that goes off leaves all it had, of each sort; laid again it has nothing. */
    private static void heapsOff() {
        for (int heap = 0; heap < 8; heap++) {
            PencilLine x = full();
            CHECK.due("6 heap " + heap + " off", x.heap(heap, -1, 0), 1);
            CHECK.due("6 heap " + heap + " laid again", x.heap(heap, 0, 0), 0);
            CHECK.due("10 it has no tons", x.lies(heap, 2), 0);
            for (int sort = 0; sort < 6; sort++) {
                CHECK.due("6 heap " + heap + " has none of sort " + sort, x.lies(heap, 3 + sort), 0);
                int elsewhere = 0;
                for (int other = 0; other < 8; other++) {
                    elsewhere += other == heap ? 0 : unitsOf(other, sort);
                }
                CHECK.due("7 so many are in no heap", x.put(heap, sort, 0), 15 + sort - elsewhere);
            }
        }
    }

    private static void layingsTakeUpAll() {
        for (int laying = 0; laying < 4; laying++) {
            PencilLine x = full();
            long tried = x.trial(laying);
            CHECK.due("22 lay(" + laying + ")", x.lay(laying), laying == 0 ? 1 : 8);
            CHECK.due("23 trial(" + laying + ")", tried, x.lost(1));
            for (int sort = 0; sort < 6; sort++) {
                int all = 0;
                for (int heap = 0; heap < 8; heap++) {
                    all += x.lies(heap, 3 + sort);
                    boolean none = laying == 0 && heap > 0;
                    CHECK.holds("22 sort " + sort + " in heap " + heap, !none || x.lies(heap, 3 + sort) == 0);
                }
                CHECK.due("22 all units of sort " + sort, all, 15 + sort);
            }
        }
    }

    /** Behind floe() nothing is as it was, be the text the same. */
    private static void floeAnew() {
        PencilLine x = full();
        CHECK.due("4 the same text", Check.floe(x, TEXT), 24);
        same("4 as on a new object", told(x), told(Check.on(TEXT)));
        PencilLine y = full();
        Check.floe(y, TEXT);
        for (int heap = 0; heap < 8; heap++) {
            CHECK.due("4 no heap " + heap, y.heap(heap, 11, 11), 0);
            CHECK.due("4 it has nothing", y.lies(heap, 2), 0);
            CHECK.due("4 nor of the last sort", y.lies(heap, 8), 0);
        }
        for (int group = 1; group < 4; group++) {
            CHECK.due("4 group 0 alone sleeps", y.sleep(group, 11, 11, 0), 28);
        }
        CHECK.due("4 it has all", y.sleep(0, 0, 0, 0), 0);
    }

    private static String[] less() {
        String floe = "floe wide 5 deep 4 people 9 days 7;";
        String crack = "crack down 2 odds 400 swell 1 warm 1 weight 50;";
        String sort = "sort beds gives 4 tons 90 many 6;";
        String other = "other day 2 odds 30 breaks 40;";
        return new String[] {floe, floe + crack, floe + sort, floe + other, floe + crack + sort,
            floe + crack + sort + other, floe + crack.repeat(6) + sort.repeat(5) + other.repeat(3)};
    }

    /** A floe of less in place of the fullest: nothing of that one's lines is left. */
    private static void floeOfLess() {
        for (String text : less()) {
            PencilLine x = full();
            Check.floe(x, text);
            lie(x);
            PencilLine y = Check.on(text);
            lie(y);
            same("4 in place of the fullest: " + text, told(x), told(y));
        }
    }

    private static void lie(PencilLine x) {
        x.heap(1, 1, 1);
        x.put(1, 0, 2);
        x.heap(6, 4, 3);
        x.put(6, 0, 4);
        x.sleep(2, 4, 0, 0);
    }

    /** Likewise what is worked from all lines: loads, fetchings, layings, moves, other floes. */
    private static void floeOfLessGoing() {
        for (String text : less()) {
            PencilLine x = full();
            x.alive(1, 0, 0);
            x.least(28, 60, -1);
            Check.floe(x, text);
            lie(x);
            PencilLine y = Check.on(text);
            lie(y);
            same("4 what is worked, in place of the fullest: " + text, worked(x), worked(y));
        }
    }

    private static List<Long> worked(PencilLine x) {
        List<Long> told = new ArrayList<>();
        for (int kind = -1; kind < 4; kind++) {
            told.add((long) x.least(3, 2, kind));
            told.add((long) x.least(20, 9, kind));
        }
        for (int sort = 0; sort < 6; sort++) {
            told.add((long) x.load(3, 2, sort));
            told.add((long) x.fetched(1, 0, 6, sort));
        }
        for (int tons = 0; tons < 800; tons += 90) {
            told.add((long) x.lasts(3, tons));
        }
        for (int set = 0; set < 4; set++) {
            told.add((long) x.fetch(set, 0));
            told.add((long) x.enough(set));
        }
        told.add((long) x.leave());
        for (int day = 1; day < 8; day++) {
            told.add(x.alive(day, 0, 0));
            told.add(x.alive(day, 1, 1));
            told.add((long) x.go(day, 0, 1));
        }
        told.add(x.lost(5));
        for (int laying = 0; laying < 4; laying++) {
            told.add(x.trial(laying));
        }
        told.add((long) x.heaps());
        told.add((long) x.where(0));
        told.add(x.gap());
        told.add((long) x.run(3, 4));
        told.add((long) x.springs(3, 4, 5));
        told.add((long) x.apart(1, 1));
        told.add((long) x.lay(3));
        told.add((long) x.lies(1, 2));
        return told;
    }

    private static void imagesOfAll() {
        List<Long> due = told(full());
        for (int k = 0; k < 3; k++) {
            PencilLine x = full();
            CHECK.due("52 keep(" + k + ")", x.keep(k), 0);
            Check.floe(x, "floe wide 2 deep 2 people 1 days 1;");
            CHECK.due("53 back(" + k + ")", x.back(k), 0);
            same("53 image " + k, told(x), due);
        }
    }

    /** What is done behind keep() is not done to the image, nor what is done behind back(). */
    private static void imagesApart() {
        PencilLine x = full();
        List<Long> due = told(full());
        x.keep(2);
        for (int i = 0; i < 2; i++) {
            x.lay(i);
            for (int heap = 0; heap < 8; heap++) {
                x.heap(heap, 0, heap);
            }
            for (int group = 0; group < 4; group++) {
                x.sleep(group, 11, 11, 1);
            }
            for (int crack = 0; crack < 7; crack++) {
                x.saw(crack);
            }
            x.pass(50);
            x.run(i, 9);
            x.heap(7, -1, 0);
            x.back(2);
        }
        same("53 the image, gone back to twice", told(x), due);
    }

    /** Going back to less leaves nothing of what was more. */
    private static void imageOfLess() {
        PencilLine x = Check.on(TEXT);
        List<Long> due = told(Check.on(TEXT));
        x.keep(0);
        settle(x);
        x.back(0);
        same("53 nothing lay", told(x), due);
        PencilLine y = Check.on(TEXT);
        y.keep(0);
        settle(y);
        y.back(0);
        for (int heap = 0; heap < 8; heap++) {
            CHECK.due("53 no heap " + heap, y.heap(heap, 1, 1), 0);
            for (int sort = 0; sort < 6; sort++) {
                CHECK.due("53 heap " + heap + " has none of sort " + sort, y.lies(heap, 3 + sort), 0);
            }
        }
        same("53 no floe", told(backToNone()), told(new PencilLine()));
        PencilLine again = backToNone();
        CHECK.due("4 a floe again", Check.floe(again, TEXT), 24);
        same("4 as on a new object", told(again), due);
    }

    private static PencilLine backToNone() {
        PencilLine x = new PencilLine();
        x.keep(1);
        Check.floe(x, TEXT);
        settle(x);
        x.back(1);
        return x;
    }
}
