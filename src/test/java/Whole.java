import java.util.ArrayList;
import java.util.List;
import java.util.function.Supplier;
import java.util.function.ToLongFunction;

/**
 * A camp in which all has happened that calls can bring about, told whole. A call that is refused, or
 * that asks alone, must leave it as it is in a twin that was not called.
 */
final class Whole {
    static final String TEXT = "floe wide 6 deep 4 people 9 days 10;"
            + "crack down 3 odds 100 swell 5 warm 10 weight 50;"
            + "crack along 2 odds 50 swell 1 warm 2 weight 10 old;"
            + "crack down 5 odds 30 swell 0 warm 0 weight 90;"
            + "sort food gives 45 tons 20 many 4;sort seats gives 3 tons 7 many 5;"
            + "sea swell 3 warm 2;shuts 20;fetch 2 across 7;sees 40;drift 60 land 9;"
            + "breaks 300 crossing 200;other day 4 odds 50 breaks 100;other day 6 odds 30 breaks 10;";
    private static final int CRACKS = 3;
    private static final int SORTS = 2;

    private final Check check;
    private final List<Long> lived = told(lived());
    private final List<Long> fresh = told(new PencilLine());

    Whole(Check check) {
        this.check = check;
    }

    /**
     * Heaps 0 (1, 1), 3 (4, 1) and 7 (5, 3); units 1, 2 and 0 of food, 2, 0 and 1 of seats; of nine people
     * 4 (0, 0), 2 (5, 0), 1 (2, 2) and 1 (4, 3) sleep; set 2 was open ahead of a run; cracks 0 and 2 were
     * seen, 40 hours watched; slots 0, 1 and 3 have rows, images 0 and 2 something; the latest floe() had a
     * fault; a text is on the tape.
     */
    static PencilLine lived() {
        PencilLine x = Check.on("floe wide 3 deep 3 people 2 days 2;sort heat gives 1 tons 1 many 2;");
        x.heap(2, 2, 2);
        x.keep(2);
        Check.floe(x, TEXT);
        settle(x);
        x.saw(0);
        x.saw(0);
        x.saw(2);
        x.pass(40);
        x.keep(0);
        x.sleep(2, 2, 2, 1);
        x.open(2);
        x.run(5, 3);
        x.row(0, 0, 5);
        x.write(0, 1, -1);
        x.write(0, 3, 8);
        x.row(1, 3, 3);
        x.write(1, 2, 1L << 40);
        x.row(3, 0, 4);
        x.write(3, 0, 9);
        Check.floe(x, "floe wide 1");
        Check.tape(x, "floe wide 2 deep 3 people 4 days 5;sees 7;");
        return x;
    }

    private static void settle(PencilLine x) {
        x.heap(0, 1, 1);
        x.heap(3, 4, 1);
        x.heap(7, 5, 3);
        x.put(0, 0, 1);
        x.put(0, 1, 2);
        x.put(3, 0, 2);
        x.put(7, 1, 1);
        x.sleep(0, 0, 0, 4);
        x.sleep(1, 5, 0, 2);
        x.sleep(3, 4, 3, 1);
    }

    /** The call's answer is due, and behind it the camp is as its twin is. */
    void stays(String call, long due, ToLongFunction<PencilLine> ask) {
        behind(call, due, ask, Whole::lived, lived);
    }

    /** The same of a new object. */
    void staysNew(String call, long due, ToLongFunction<PencilLine> ask) {
        behind(call + " on a new object", due, ask, PencilLine::new, fresh);
    }

    /** Behind the call the camp is as its twin is, whatever the call answers. */
    void asks(String call, ToLongFunction<PencilLine> ask) {
        stays(call, ask.applyAsLong(lived()), ask);
    }

    private void behind(String call, long due, ToLongFunction<PencilLine> ask, Supplier<PencilLine> make,
            List<Long> as) {
        PencilLine x = make.get();
        check.due(call, ask.applyAsLong(x), due);
        List<Long> now = told(x);
        for (int i = 0; i < as.size(); i++) {
            if (!now.get(i).equals(as.get(i))) {
                check.due("behind " + call + " number " + i + " of what is told", now.get(i), as.get(i));
                return;
            }
        }
    }

    /** All that can be heard of an object; the asking itself uses it up. */
    private static List<Long> told(PencilLine x) {
        List<Long> told = new ArrayList<>();
        told.add((long) x.fault(0));
        told.add((long) x.fault(1));
        told.add((long) x.struck());
        told.add((long) x.count(10));
        told.add((long) x.count(13));
        tellCamp(x, told);
        for (int slot = 0; slot < 4; slot++) {
            tellSlot(x, slot, told);
        }
        tellSleepers(x, told);
        for (int k = 0; k < 3; k++) {
            told.add((long) x.back(k));
            tellCamp(x, told);
            tellSleepers(x, told);
        }
        told.add((long) x.floe());
        told.add((long) x.fault(1));
        for (int what = 0; what < 4; what++) {
            told.add((long) x.count(what));
        }
        told.add(x.watch(1));
        return told;
    }

    private static void tellCamp(PencilLine x, List<Long> told) {
        for (int what = 0; what < 13; what++) {
            told.add(what == 10 ? 0L : x.count(what));
        }
        for (int heap = 0; heap < 8; heap++) {
            boolean there = x.lies(heap, 0) != PencilLine.NONE;
            for (int what = 0; what < 3 + SORTS && there; what++) {
                told.add((long) x.lies(heap, what));
            }
        }
        for (int crack = 0; crack < CRACKS; crack++) {
            told.add((long) x.odds(crack));
            told.add((long) x.seam(crack));
        }
        for (int group = 0; group < 4; group++) {
            told.add((long) x.minutes(7, 0, 0, group));
            told.add((long) x.minutes(0, 7, 0, group));
            told.add((long) x.fetch(7, group));
        }
        told.add(x.part(2));
        told.add(x.lost(3));
        told.add(x.watch(2));
        told.add(x.miles(2, 8));
        told.add(x.alive(1, 0, 0));
    }

    /** What is no set in a row is found by putting 0 in its place; then the width by what it cuts. */
    private static void tellSlot(PencilLine x, int slot, List<Long> told) {
        for (int i = 0; i <= 6; i++) {
            int at = x.judge(slot);
            told.add((long) at);
            if (at < 0 || x.write(slot, at, 0) != 0) {
                break;
            }
        }
        for (int bits = 8; bits <= 32 && x.write(slot, 0, 1L << bits) == 0; bits *= 2) {
            told.add((long) x.judge(slot));
        }
        x.write(slot, 0, 0);
    }

    private static void tellSleepers(PencilLine x, List<Long> told) {
        for (int group = 0; group < 4; group++) {
            told.add((long) x.sleep(group, 0, 0, 0));
        }
    }
}
