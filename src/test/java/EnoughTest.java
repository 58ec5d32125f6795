/** Promises 17 to 30: what is enough, what is lost, layings, moves, beds and watches. */
public final class EnoughTest {
    private static final long ALL = 1000000000000L;
    private static final String CAMP = "floe wide 6 deep 4 people 4 days 10;"
            + "crack down 3 odds 500 swell 0 warm 0 weight 0;"
            + "crack along 2 odds 100 swell 0 warm 0 weight 0;"
            + "sort food gives 10 tons 2 many 4;sort beds gives 2 tons 1 many 2;"
            + "sort seats gives 4 tons 30 many 2;";
    private static final Check CHECK = new Check("EnoughTest");

    public static void main(String[] args) {
        enough();
        lacks();
        lost();
        safe();
        judge();
        lay();
        trial();
        best();
        betters();
        gap();
        heaps();
        where();
        watch();
        watches();
        CHECK.finish();
    }

    /** All lies at 1, 1 where all sleep. */
    private static PencilLine settled() {
        PencilLine x = Check.on(CAMP);
        x.heap(0, 1, 1);
        x.put(0, 0, 4);
        x.put(0, 1, 2);
        x.put(0, 2, 1);
        return x;
    }

    private static void enough() {
        PencilLine x = settled();
        CHECK.due("17 all there", x.enough(0), 1);
        CHECK.due("17 on one piece", x.enough(3), 1);
        x.put(0, 0, 3);
        CHECK.due("17 food for fewer days", x.enough(0), 0);
        x.put(0, 0, 4);
        x.put(0, 1, 1);
        CHECK.due("17 beds for two", x.enough(0), 0);
        x.put(0, 1, 2);
        x.put(0, 2, 0);
        CHECK.due("17 no seats", x.enough(0), 0);
        x.put(0, 2, 1);
        x.sleep(0, 0, 0, 3);
        x.sleep(1, 5, 0, 1);
        CHECK.due("17 one apart, whole floe", x.enough(0), 1);
        CHECK.due("17 one apart, parted", x.enough(1), 0);
        CHECK.due("17 one apart, parted otherwise", x.enough(2), 1);
        CHECK.due("17 no set", x.enough(4), -2);
        CHECK.due("17 no set", x.enough(-1), -2);
        CHECK.due("17 no floe", new PencilLine().enough(0), -2);
        PencilLine none = Check.on("floe wide 2 deep 2 people 28 days 60;");
        CHECK.due("17 no kind is told", none.enough(0), 1);
        PencilLine many = Check.on("floe wide 2 deep 2 people 1 days 1;sort heat gives 1 tons 1 many 0;");
        CHECK.due("17 told, but none of it", many.enough(0), 0);
        many.sleep(0, 0, 0, 0);
        CHECK.due("17 nobody sleeps", many.enough(0), 1);
    }

    private static void lacks() {
        PencilLine x = settled();
        CHECK.due("18 nothing", x.lacks(0, 0), 0);
        x.put(0, 0, 1);
        x.put(0, 2, 0);
        CHECK.due("18 food of 40", x.lacks(0, 0), 30);
        CHECK.due("18 seats", x.lacks(0, 2), 4);
        CHECK.due("18 heat is not told", x.lacks(0, 3), 0);
        x.sleep(0, 0, 0, 1);
        x.sleep(2, 5, 3, 1);
        x.sleep(3, 4, 3, 2);
        CHECK.due("18 together on one piece", x.lacks(0, 0), 30);
        CHECK.due("18 too much here, none there", x.lacks(1, 0), 30);
        CHECK.due("18 beds too much here", x.lacks(1, 1), 3);
        x.sleep(3, 4, 0, 2);
        CHECK.due("18 three pieces", x.lacks(3, 0), 30);
        CHECK.due("18 three pieces, beds", x.lacks(3, 1), 3);
        x.put(0, 0, 0);
        CHECK.due("18 all of it", x.lacks(3, 0), 40);
        CHECK.due("18 no kind", x.lacks(0, 4), -2);
        CHECK.due("18 no kind", x.lacks(0, -1), -2);
        CHECK.due("18 no set", x.lacks(4, 0), -2);
        CHECK.due("18 no set", x.lacks(-1, 0), -2);
        CHECK.due("18 no floe", new PencilLine().lacks(0, 0), -2);
    }

    private static void lost() {
        PencilLine x = settled();
        CHECK.due("19 nothing", x.lost(48), 0);
        x.heap(0, 5, 1);
        CHECK.due("19 parted by the first", x.lost(1), 50000000000L);
        CHECK.due("19 two hours", x.lost(2), 97500000000L);
        CHECK.due("19 three hours", x.lost(3), 142625000000L);
        x.open(1);
        CHECK.due("19 open and never shut", x.lost(1), ALL);
        CHECK.due("19 at an hour's end alone", x.lost(48), ALL);
        CHECK.due("19 no hours", x.lost(0), -2);
        CHECK.due("19 too many", x.lost(49), -2);
        CHECK.due("19 below", x.lost(-1), -2);
        CHECK.due("19 no floe", new PencilLine().lost(1), -2);
        PencilLine shuts = Check.on(CAMP + "shuts 60;");
        shuts.sleep(0, 0, 0, 0);
        shuts.open(1);
        CHECK.due("19 nobody", shuts.lost(5), 0);
        shuts.sleep(0, 0, 0, 1);
        CHECK.due("19 nothing lies", shuts.lost(1), ALL);
        shuts.heap(0, 5, 1);
        shuts.lay(0);
        CHECK.due("19 it shuts first", shuts.lost(1), 400000000000L);
        // of 600 left that are whole 5 in 100 open again
        CHECK.due("19 then opens", shuts.lost(2), 430000000000L);
    }

    private static void safe() {
        PencilLine x = settled();
        CHECK.due("20 always", x.safe(0), 48);
        x.heap(0, 5, 1);
        CHECK.due("20 none", x.safe(0), 0);
        CHECK.due("20 below 50", x.safe(49), 0);
        CHECK.due("20 50", x.safe(50), 1);
        CHECK.due("20 97", x.safe(97), 1);
        CHECK.due("20 98", x.safe(98), 2);
        CHECK.due("20 143", x.safe(143), 3);
        CHECK.due("20 all", x.safe(1000), 48);
        // 1 of 10,000 an hour: behind 47 hours less, behind 48 more than 4 of 1,000 and a half
        PencilLine y = Check.on("floe wide 2 deep 2 people 1 days 1;sort heat gives 1 tons 1 many 1;"
                + "crack down 1 odds 211 swell 0 warm 0 weight 0;");
        y.heap(0, 1, 1);
        y.lay(0);
        CHECK.holds("20 the last hour counts", y.lost(47) <= 634000000000L && y.lost(48) > 634000000000L);
        CHECK.due("20 47", y.safe(634), 47);
        CHECK.due("20 below", x.safe(-1), -2);
        CHECK.due("20 above", x.safe(1001), -2);
        CHECK.due("20 no floe", new PencilLine().safe(1), -2);
    }

    private static void judge() {
        PencilLine x = settled();
        x.heap(0, 5, 1);
        CHECK.due("21 nothing", x.judge(0), -6);
        CHECK.due("21 no slot", x.judge(4), -2);
        CHECK.due("21 no slot", x.judge(-1), -2);
        x.row(0, 3, 4);
        CHECK.due("21 all enough", x.judge(0), 4);
        x.write(0, 3, 2);
        CHECK.due("21 enough", x.judge(0), 4);
        x.write(0, 2, 1);
        CHECK.due("21 not enough", x.judge(0), 2);
        x.write(0, 1, 4);
        CHECK.due("21 no set", x.judge(0), 1);
        x.write(0, 1, 1L << 32);
        CHECK.due("21 far above", x.judge(0), 1);
        x.write(0, 0, -1);
        CHECK.due("21 below", x.judge(0), 0);
        x.row(1, 0, 0);
        CHECK.due("21 no numbers", x.judge(1), 0);
        PencilLine none = new PencilLine();
        CHECK.due("21 no floe, nothing", none.judge(0), -2);
        none.row(0, 0, 1);
        CHECK.due("21 no floe", none.judge(0), -2);
    }

    private static void laid(PencilLine x, int heap, int... units) {
        for (int i = 0; i < units.length; i++) {
            CHECK.due("22 heap " + heap + " sort " + i, x.lies(heap, 3 + i), units[i]);
        }
    }

    private static void lay() {
        PencilLine x = Check.on(CAMP);
        CHECK.due("22 no heap", x.lay(0), -5);
        CHECK.due("22 no laying ahead of no heap", x.lay(4), -2);
        CHECK.due("22 no floe", new PencilLine().lay(0), -2);
        x.heap(2, 0, 0);
        x.heap(4, 0, 0);
        x.heap(7, 0, 0);
        x.put(7, 0, 3);
        CHECK.due("22 laying 0", x.lay(0), 1);
        laid(x, 2, 4, 2, 2);
        laid(x, 7, 0, 0, 0);
        CHECK.due("22 laying 1", x.lay(1), 3);
        laid(x, 2, 2, 0, 1);
        laid(x, 4, 1, 1, 1);
        laid(x, 7, 1, 1, 0);
        CHECK.due("22 laying 2", x.lay(2), 3);
        laid(x, 2, 2, 1, 1);
        laid(x, 4, 1, 1, 1);
        laid(x, 7, 1, 0, 0);
        CHECK.due("22 laying 3", x.lay(3), 2);
        laid(x, 2, 2, 1, 1);
        laid(x, 4, 2, 1, 1);
        laid(x, 7, 0, 0, 0);
        CHECK.due("22 below", x.lay(-1), -2);
        PencilLine y = Check.on("floe wide 2 deep 2 people 1 days 1;sort heat gives 1 tons 1 many 3;"
                + "sort seats gives 1 tons 1 many 0;sort beds gives 1 tons 1 many 2;");
        y.heap(0, 0, 0);
        y.heap(1, 1, 1);
        CHECK.due("22 laying 3, none has seats", y.lay(3), 2);
        laid(y, 0, 2, 0, 1);
        laid(y, 1, 1, 0, 1);
        PencilLine z = Check.on("floe wide 2 deep 2 people 1 days 1;sort heat gives 1 tons 1 many 2;"
                + "sort seats gives 1 tons 1 many 1;sort beds gives 1 tons 1 many 3;"
                + "sort seats gives 1 tons 1 many 1;");
        z.heap(0, 0, 0);
        z.heap(1, 1, 1);
        z.heap(2, 1, 1);
        CHECK.due("22 laying 3, seats go on", z.lay(3), 2);
        laid(z, 0, 1, 1, 2, 0);
        laid(z, 1, 1, 0, 1, 1);
        laid(z, 2, 0, 0, 0, 0);
        PencilLine nothing = Check.on("floe wide 2 deep 2 people 1 days 1;");
        nothing.heap(0, 1, 1);
        CHECK.due("22 nothing to lay", nothing.lay(1), 0);
    }

    /** Two heaps, 0 where all sleep, 1 beyond the first crack. */
    private static PencilLine parted() {
        PencilLine x = Check.on(CAMP);
        x.heap(0, 1, 1);
        x.heap(1, 4, 1);
        return x;
    }

    private static void trial() {
        PencilLine x = parted();
        CHECK.due("23 all to the first", x.trial(0), 0);
        CHECK.due("23 round both", x.trial(1), 50000000000L);
        CHECK.due("23 laying 3", x.trial(3), 50000000000L);
        CHECK.due("23 all stays", x.lies(0, 2), 0);
        CHECK.due("23 no laying", x.trial(4), -2);
        CHECK.due("23 below", x.trial(-1), -2);
        CHECK.due("23 no floe", new PencilLine().trial(0), -2);
        PencilLine y = Check.on(CAMP);
        CHECK.due("23 no heap", y.trial(0), -5);
        CHECK.due("23 no laying ahead of no heap", y.trial(9), -2);
    }

    private static void best() {
        PencilLine x = parted();
        CHECK.due("24 the first", x.best(), 0);
        x.sleep(0, 5, 1, 4);
        CHECK.due("24 the first of equals", x.best(), 0);
        x.sleep(0, 0, 0, 2);
        x.sleep(1, 5, 1, 2);
        CHECK.due("24 half of each", x.best(), 1);
        CHECK.due("24 all stays", x.lies(1, 2), 0);
        CHECK.due("24 no heap", Check.on(CAMP).best(), -5);
        CHECK.due("24 no floe", new PencilLine().best(), -2);
        // two and one: the beds must begin at the first heap anew
        PencilLine y = Check.on("floe wide 4 deep 2 people 3 days 1;"
                + "crack down 2 odds 10 swell 0 warm 0 weight 0;sort food gives 1 tons 1 many 3;"
                + "sort beds gives 1 tons 1 many 3;");
        y.heap(0, 0, 0);
        y.heap(1, 3, 0);
        y.sleep(0, 0, 0, 2);
        y.sleep(1, 3, 0, 1);
        CHECK.due("24 laying 2", y.best(), 2);
        // food for two days only where seats are
        PencilLine z = Check.on("floe wide 6 deep 2 people 2 days 2;"
                + "crack down 2 odds 10 swell 0 warm 0 weight 0;crack down 4 odds 10 swell 0 warm 0 weight 0;"
                + "sort food gives 1 tons 1 many 4;sort seats gives 1 tons 1 many 2;");
        z.heap(0, 0, 0);
        z.heap(1, 3, 0);
        z.heap(2, 5, 0);
        z.sleep(0, 0, 0, 1);
        z.sleep(1, 3, 0, 1);
        CHECK.due("24 laying 3", z.best(), 3);
    }

    private static void betters() {
        PencilLine x = parted();
        x.lay(1);
        CHECK.due("25 no moves", x.betters(0), 0);
        CHECK.due("25 one does", x.betters(5), 1);
        CHECK.due("25 the first heap it is not", x.lies(0, 0), 1);
        CHECK.due("25 to the first cell, x", x.lies(1, 0), 0);
        CHECK.due("25 to the first cell, y", x.lies(1, 1), 0);
        CHECK.due("25 none left", x.betters(5), 0);
        CHECK.due("25 below", x.betters(-1), -2);
        CHECK.due("25 above", x.betters(6), -2);
        CHECK.due("25 no floe", new PencilLine().betters(1), -2);
        CHECK.due("25 no heap", Check.on(CAMP).betters(5), 0);
        // by rows: 2, 0 ahead of 0, 1
        PencilLine y = Check.on("floe wide 4 deep 4 people 1 days 1;"
                + "crack down 2 odds 10 swell 0 warm 0 weight 0;sort food gives 1 tons 1 many 2;");
        y.sleep(0, 3, 3, 1);
        y.heap(4, 0, 0);
        y.heap(5, 1, 0);
        y.put(4, 0, 1);
        y.put(5, 0, 1);
        CHECK.due("25 one of two", y.betters(1), 1);
        CHECK.due("25 the first heap", y.lies(4, 0), 2);
        CHECK.due("25 the first row", y.lies(4, 1), 0);
        CHECK.due("25 the other stays", y.lies(5, 0), 1);
        // three heaps that all must come over are worth nothing one by one
        PencilLine z = Check.on("floe wide 4 deep 4 people 3 days 1;"
                + "crack down 2 odds 10 swell 0 warm 0 weight 0;sort food gives 1 tons 1 many 3;");
        z.sleep(0, 3, 3, 3);
        z.heap(0, 0, 0);
        z.heap(1, 0, 0);
        z.heap(2, 0, 0);
        z.lay(1);
        CHECK.due("25 no single move betters", z.betters(5), 0);
    }

    private static void gap() {
        PencilLine x = parted();
        x.lay(1);
        CHECK.due("26 all of it", x.gap(), 50000000000L);
        CHECK.due("26 all stays", x.lies(1, 0), 4);
        x.betters(1);
        CHECK.due("26 nothing", x.gap(), 0);
        CHECK.due("26 no heap", Check.on(CAMP).gap(), 0);
        CHECK.due("26 no floe", new PencilLine().gap(), -2);
        // only off the crack, not merely beyond it
        PencilLine off = Check.on("floe wide 4 deep 2 people 2 days 1;"
                + "crack down 1 odds 0 swell 0 warm 0 weight 99;sort food gives 1 tons 99 many 20;");
        off.sleep(0, 3, 0, 1);
        off.sleep(1, 0, 0, 1);
        off.heap(0, 0, 0);
        off.put(0, 0, 20);
        off.heap(1, 1, 0);
        CHECK.holds("26 off the crack", off.gap() > 0);
        CHECK.due("25 off the crack", off.betters(5), 1);
        CHECK.due("25 not beside it", off.lies(0, 0), 2);
        // weight moves off a crack, but the people stay parted
        PencilLine y = Check.on("floe wide 6 deep 2 people 1 days 1;"
                + "crack down 3 odds 0 swell 0 warm 0 weight 99;sort food gives 1 tons 99 many 6;");
        y.sleep(0, 0, 0, 1);
        for (int heap = 0; heap < 6; heap++) {
            y.heap(heap, 3, 0);
            y.put(heap, 0, 1);
        }
        long before = y.lost(1);
        CHECK.due("26 weight", before, ALL / 10000 * (99 * 594 / 100));
        long gap = y.gap();
        CHECK.due("26 five at most, betters(5)", y.betters(5), 1);
        CHECK.due("26 by as much", gap, before - y.lost(1));
    }

    private static void heaps() {
        PencilLine x = parted();
        CHECK.due("27 one", x.heaps(), 1);
        x.sleep(0, 0, 0, 2);
        x.sleep(1, 5, 1, 2);
        CHECK.due("27 two", x.heaps(), 2);
        x.heap(5, 0, 0);
        CHECK.due("27 not three", x.heaps(), 2);
        CHECK.due("27 all stays", x.lies(0, 2), 0);
        x.sleep(1, 0, 0, 0);
        x.sleep(0, 0, 0, 0);
        CHECK.due("27 the least of several", x.heaps(), 1);
        // four pieces, two of the eight on each: only all eight give each its bed
        PencilLine y = Check.on("floe wide 12 deep 12 people 4 days 1;"
                + "crack down 6 odds 9 swell 0 warm 0 weight 0;crack along 6 odds 9 swell 0 warm 0 weight 0;"
                + "sort beds gives 1 tons 1 many 8;");
        for (int heap = 0; heap < 8; heap++) {
            y.heap(heap, heap == 7 ? 11 : 0, heap == 6 ? 11 : 0);
        }
        y.sleep(0, 11, 0, 1);
        CHECK.due("27 eight", y.heaps(), 8);
        y.sleep(0, 0, 11, 1);
        CHECK.due("27 seven", y.heaps(), 7);
        CHECK.due("27 no heap", Check.on(CAMP).heaps(), -5);
        CHECK.due("27 no floe", new PencilLine().heaps(), -2);
    }

    private static void where() {
        PencilLine x = settled();
        CHECK.due("28 where it is well", x.where(0), 0);
        x.heap(0, 4, 1);
        CHECK.due("28 beyond the crack", x.where(0), 3);
        x.heap(0, 4, 3);
        CHECK.due("28 beyond both", x.where(0), 27);
        CHECK.due("28 all stays", x.lost(1) == 0 ? 1 : 0, 0);
        CHECK.due("28 nobody, anywhere", x.where(3), 0);
        CHECK.due("28 no group", x.where(4), -2);
        CHECK.due("28 no group", x.where(-1), -2);
        CHECK.due("28 no floe", new PencilLine().where(0), -2);
    }

    private static void watch() {
        PencilLine x = Check.on("floe wide 2 deep 2 people 1 days 1;sees 33;");
        CHECK.due("29 nobody", x.watch(0), ALL);
        CHECK.due("29 one", x.watch(1), 670000000000L);
        CHECK.due("29 two", x.watch(2), 448900000000L);
        long left = ALL;
        for (int i = 0; i < 28; i++) {
            left = left * 67 / 100;
        }
        CHECK.due("29 cut each time", x.watch(28), left);
        CHECK.due("29 above", x.watch(29), -2);
        CHECK.due("29 below", x.watch(-1), -2);
        PencilLine none = Check.on("floe wide 2 deep 2 people 1 days 1;sees 0;");
        CHECK.due("29 sees none", none.watch(28), ALL);
        PencilLine all = Check.on("floe wide 2 deep 2 people 1 days 1;sees 100;");
        CHECK.due("29 sees all", all.watch(1), 0);
        CHECK.due("29 nobody sees none", all.watch(0), ALL);
    }

    private static void watches() {
        PencilLine x = Check.on("floe wide 2 deep 2 people 1 days 1;sees 33;");
        CHECK.due("30 1000", x.watches(1000), 0);
        CHECK.due("30 999", x.watches(999), 1);
        CHECK.due("30 670", x.watches(670), 1);
        CHECK.due("30 669", x.watches(669), 2);
        CHECK.due("30 0", x.watches(0), -1);
        CHECK.due("30 below", x.watches(-1), -2);
        CHECK.due("30 above", x.watches(1001), -2);
        CHECK.due("30 sees all", Check.on("floe wide 2 deep 2 people 1 days 1;sees 100;").watches(0), 1);
        CHECK.due("30 without a floe", new PencilLine().watches(250), 2);
        PencilLine y = Check.on("floe wide 2 deep 2 people 1 days 1;sees 10;");
        CHECK.due("30 28 do not do", y.watches(52), -1);
        CHECK.due("30 28 do", y.watches(53), 28);
    }
}
