/**
 * A camp on a floe that may part anywhere: what cracks are likely to open, which pieces it is then,
 * whether each piece has enough for who sleeps on it, and what to do about it.
 *
 * All rows are made in constructors and used again, so that no call makes an object.
 */
public final class PencilLine {
    public static final int NONE = -1;

    private static final int NO_SUCH = -2;
    private static final int TOO_MANY = -3;
    private static final int FAULTY = -4;
    private static final int NO_HEAP = -5;
    private static final int HAS_NOTHING = -6;
    private static final int BEYOND_ROW = -7;
    private static final int OTHER_WIDTH = -8;

    private static final long ALL_PARTS = 1000000000000L;
    private static final long THOUSANDTH = 1000000000L;

    private static final int MOST_BYTES = 1600;
    private static final int MOST_SIDE = 12;
    private static final int MOST_PEOPLE = 28;
    private static final int MOST_DAYS = 60;
    private static final int MOST_CRACKS = 7;
    private static final int MOST_SORTS = 6;
    private static final int MOST_OTHERS = 4;
    private static final int MOST_HOURS = 48;
    private static final int MOST_SPRING_HOURS = 99;
    private static final int MOST_SEED = 2000000000;
    private static final int MOST_SPRINGS = 60;
    private static final int MOST_ODDS = 10000;
    private static final int MOST_TONS = 9999;
    private static final int MOST_MILES = 99;
    private static final int MOST_SEEN = 99;
    private static final int MOST_PASSED = 99;
    private static final int MOST_WATCHED = 9999;
    private static final int MOST_NUMBERS = 60;
    private static final int MOST_MOVES = 5;

    private static final int HEAPS = 8;
    private static final int GROUPS = 4;
    private static final int SLOTS = 4;
    private static final int WIDTHS = 4;
    private static final int IMAGES = 3;
    private static final int LAYINGS = 4;
    private static final int KINDS = 4;
    private static final int FOOD = 0;
    private static final int BEDS = 1;
    private static final int SEATS = 2;
    private static final int HEAT = 3;

    private static final int CRACK_ALONG = 0;
    private static final int CRACK_AT = 1;
    private static final int CRACK_ODDS = 2;
    private static final int CRACK_SWELL = 3;
    private static final int CRACK_WARM = 4;
    private static final int CRACK_WEIGHT = 5;
    private static final int CRACK_OLD = 6;
    private static final int CRACK_NUMBERS = 7;

    private static final int SORT_KIND = 0;
    private static final int SORT_GIVES = 1;
    private static final int SORT_TONS = 2;
    private static final int SORT_MANY = 3;
    private static final int SORT_NUMBERS = 4;

    private static final int OTHER_DAY = 0;
    private static final int OTHER_ODDS = 1;
    private static final int OTHER_BREAKS = 2;
    private static final int OTHER_NUMBERS = 3;

    private final Reader reader;
    private final Camp camp;
    private final Camp[] images;
    private final boolean[] kept;
    private final Row[] slots;
    private final Ice ice;
    private final Trials trials;
    private final Stores stores;
    private final Going going;
    private final Drift drift;
    private int struck;

    public PencilLine() {
        reader = new Reader();
        camp = new Camp();
        images = new Camp[IMAGES];
        for (int k = 0; k < IMAGES; k++) {
            images[k] = new Camp();
        }
        kept = new boolean[IMAGES];
        slots = new Row[SLOTS];
        for (int i = 0; i < SLOTS; i++) {
            slots[i] = new Row();
        }
        ice = new Ice();
        trials = new Trials();
        stores = new Stores();
        going = new Going();
        drift = new Drift();
    }

    // ---- the tape and the floe ----

    public int feed(int a, int b, int c, int d, int e) {
        if (!reader.hasRoom(20)) {
            return NONE;
        }
        reader.addNumber(a);
        reader.addNumber(b);
        reader.addNumber(c);
        reader.addNumber(d);
        reader.addNumber(e);
        return reader.length;
    }

    public int end(int n) {
        if (n < 0 || n > reader.length) {
            return NONE;
        }
        reader.length = n;
        return n;
    }

    public int floe() {
        reader.read();
        if (reader.fault != 0) {
            return FAULTY;
        }
        camp.begin(reader.draft);
        struck = 0;
        return camp.floe.lines;
    }

    public int fault(int what) {
        switch (what) {
            case 0:
                return reader.fault;
            case 1:
                return reader.place;
            default:
                return NONE;
        }
    }

    // ---- heaps, groups, cracks that are open ----

    public int heap(int heap, int x, int y) {
        if (!isHeap(heap) || (x != NONE && !camp.floe.hasCell(x, y))) {
            return NO_SUCH;
        }
        int was = camp.hasHeap(heap) ? 1 : 0;
        if (x == NONE) {
            camp.takeAway(heap);
        } else {
            camp.placeHeap(heap, x, y);
        }
        return was;
    }

    public int put(int heap, int sort, int n) {
        if (!camp.hasHeap(heap) || !camp.floe.sorts.has(sort) || n < 0) {
            return NO_SUCH;
        }
        int free = camp.floe.sorts.at(sort, SORT_MANY) - camp.laidElsewhere(heap, sort);
        if (n > free) {
            return TOO_MANY;
        }
        camp.units[heap][sort] = n;
        return free - n;
    }

    public int sleep(int group, int x, int y, int n) {
        if (!isGroup(group) || !camp.floe.hasCell(x, y) || n < 0 || n > MOST_PEOPLE) {
            return NO_SUCH;
        }
        int all = camp.sleepers() - camp.groupSize[group] + n;
        if (all > camp.floe.people) {
            return TOO_MANY;
        }
        camp.placeGroup(group, x, y);
        camp.groupSize[group] = n;
        return all;
    }

    public int open(int set) {
        if (!camp.floe.hasSet(set)) {
            return NO_SUCH;
        }
        int was = camp.opened;
        camp.opened = set;
        return was;
    }

    public int lies(int heap, int what) {
        int sort = what < 3 ? NONE : what - 3;
        if (!isHeap(heap) || what < 0 || (what > 2 && !camp.floe.sorts.has(sort))) {
            return NO_SUCH;
        }
        if (!camp.hasHeap(heap)) {
            return NONE;
        }
        switch (what) {
            case 0:
                return camp.heapX[heap];
            case 1:
                return camp.heapY[heap];
            case 2:
                return camp.tonsOf(heap);
            default:
                return camp.unitsIn(heap, sort);
        }
    }

    // ---- cracks, pieces, chances ----

    public int near(int crack) {
        return camp.floe.cracks.has(crack) ? camp.tonsNear(crack) : NO_SUCH;
    }

    public int odds(int crack) {
        return camp.floe.cracks.has(crack) ? camp.oddsOf(crack) : NO_SUCH;
    }

    public int piece(int set, int x, int y) {
        Floe floe = camp.floe;
        if (!floe.hasSet(set) || !floe.hasCell(x, y)) {
            return NO_SUCH;
        }
        int crossed = floe.beyond(x, y) & set;
        int along = crossed & floe.alongs();
        return Integer.bitCount(crossed) - Integer.bitCount(along) + 8 * Integer.bitCount(along);
    }

    public int pieces(int set) {
        Floe floe = camp.floe;
        if (!floe.hasSet(set)) {
            return NO_SUCH;
        }
        return (1 + floe.partings(set, 0)) * (1 + floe.partings(set, 1));
    }

    public long part(int set) {
        if (!camp.floe.hasSet(set)) {
            return NO_SUCH;
        }
        ice.look(camp);
        ice.passHour();
        return ice.partsOf(set);
    }

    public long with(int n, boolean lost) {
        if (!camp.floe.isThere() || n < 0 || n > camp.floe.cracks.size) {
            return NO_SUCH;
        }
        ice.look(camp);
        ice.passHour();
        long parts = 0;
        for (int set = 0; set < ice.sets; set++) {
            if (Integer.bitCount(set) == n && (!lost || !ice.isEnough(set))) {
                parts += ice.partsOf(set);
            }
        }
        return parts;
    }

    public int enough(int set) {
        if (!camp.floe.hasSet(set)) {
            return NO_SUCH;
        }
        ice.look(camp);
        return ice.isEnough(set) ? 1 : 0;
    }

    public int lacks(int set, int kind) {
        if (!camp.floe.hasSet(set) || kind < 0 || kind >= KINDS) {
            return NO_SUCH;
        }
        ice.look(camp);
        return ice.lacking(set, kind);
    }

    public long lost(int n) {
        if (!camp.floe.isThere() || n < 1 || n > MOST_HOURS) {
            return NO_SUCH;
        }
        return ice.lostIn(camp, n);
    }

    public int safe(int thousandths) {
        if (!camp.floe.isThere() || !isThousandths(thousandths)) {
            return NO_SUCH;
        }
        ice.look(camp);
        long gone = 0;
        for (int hour = 1; hour <= MOST_HOURS; hour++) {
            ice.passHour();
            gone += ice.takeOutLost();
            if (gone > thousandths * THOUSANDTH) {
                return hour - 1;
            }
        }
        return MOST_HOURS;
    }

    public int judge(int slot) {
        Row row = slotAt(slot);
        if (row == null || !camp.floe.isThere()) {
            return NO_SUCH;
        }
        if (!row.there) {
            return HAS_NOTHING;
        }
        ice.look(camp);
        for (int i = 0; i < row.size; i++) {
            long set = row.numberAt(i);
            if (set < 0 || set >= ice.sets || !ice.isEnough((int) set)) {
                return i;
            }
        }
        return row.size;
    }

    // ---- layings, moves, where to sleep ----

    public int lay(int laying) {
        int wrong = cannotLay(laying);
        if (wrong != 0) {
            return wrong;
        }
        camp.layAll(laying, HEAPS);
        return camp.heapsWithSomething();
    }

    public long trial(int laying) {
        int wrong = cannotLay(laying);
        return wrong != 0 ? wrong : trials.lostIfLaid(camp, laying, HEAPS);
    }

    public int best() {
        int wrong = cannotLay(0);
        return wrong != 0 ? wrong : trials.bestLaying(camp);
    }

    public int betters(int n) {
        if (!camp.floe.isThere() || n < 0 || n > MOST_MOVES) {
            return NO_SUCH;
        }
        return trials.moveHeaps(camp, n);
    }

    public long gap() {
        if (!camp.floe.isThere()) {
            return NO_SUCH;
        }
        trials.tried.copyFrom(camp);
        trials.moveHeaps(trials.tried, MOST_MOVES);
        return ice.lostIn(camp, 1) - ice.lostIn(trials.tried, 1);
    }

    public int heaps() {
        int wrong = cannotLay(0);
        return wrong != 0 ? wrong : trials.bestHeaps(camp);
    }

    public int where(int group) {
        if (!camp.floe.isThere() || !isGroup(group)) {
            return NO_SUCH;
        }
        return trials.bestCellFor(camp, group);
    }

    // ---- watches ----

    public long watch(int n) {
        return n < 0 || n > MOST_PEOPLE ? NO_SUCH : unseenBy(n);
    }

    public int watches(int thousandths) {
        if (!isThousandths(thousandths)) {
            return NO_SUCH;
        }
        for (int n = 0; n <= MOST_PEOPLE; n++) {
            if (unseenBy(n) <= thousandths * THOUSANDTH) {
                return n;
            }
        }
        return NONE;
    }

    // ---- other floes ----

    public long alive(int day, int on, int seen) {
        if (!Going.canBe(camp.floe, day, on, seen)) {
            return NO_SUCH;
        }
        going.workBackTo(camp.floe, day);
        return going.worthOf(on, seen);
    }

    public int go(int day, int on, int seen) {
        if (!Going.canBe(camp.floe, day, on, seen)) {
            return NO_SUCH;
        }
        going.workBackTo(camp.floe, day + 1);
        return going.bestFrom(camp.floe, on, seen);
    }

    public int leave() {
        return camp.floe.isThere() ? going.firstDayToGo(camp.floe) : NO_SUCH;
    }

    // ---- loads ----

    public int least(int people, int days, int kind) {
        if (!isCrew(people, days) || kind < NONE || kind >= KINDS) {
            return NO_SUCH;
        }
        if (kind != NONE) {
            return stores.loadOf(camp.floe, kind, neededOf(kind, people, days), NONE);
        }
        return stores.loadOfKinds(camp.floe, 0, people, days);
    }

    public int load(int people, int days, int sort) {
        if (!isCrew(people, days) || !camp.floe.sorts.has(sort)) {
            return NO_SUCH;
        }
        int kind = camp.floe.sorts.at(sort, SORT_KIND);
        int tons = stores.loadOf(camp.floe, kind, neededOf(kind, people, days), sort);
        return tons == NONE ? NONE : stores.askedUnits();
    }

    public int lasts(int people, int tons) {
        if (!isCrew(people, 0) || tons < 0 || tons > MOST_TONS) {
            return NO_SUCH;
        }
        int others = stores.loadOfKinds(camp.floe, FOOD + 1, people, 0);
        if (others == NONE) {
            return NONE;
        }
        boolean eats = camp.floe.tells(FOOD);
        stores.loadOf(camp.floe, FOOD, people * MOST_DAYS, NONE);
        for (int days = MOST_DAYS; days >= 0; days--) {
            int food = eats ? stores.costOf(people * days) : 0;
            if (food != NONE && food + others <= tons) {
                return days;
            }
        }
        return NONE;
    }

    // ---- fetching ----

    public int across(int set, int heap, int group) {
        if (!camp.floe.hasSet(set) || !isHeap(heap) || !isGroup(group)) {
            return NO_SUCH;
        }
        return camp.hasHeap(heap) ? camp.cracksBetween(set, heap, group) : NONE;
    }

    public int minutes(int set, int heap, int sort, int group) {
        if (!camp.floe.hasSet(set) || !isHeap(heap) || !isGroup(group)
                || !camp.floe.sorts.has(sort)) {
            return NO_SUCH;
        }
        return camp.hasHeap(heap) ? camp.minutesOf(set, heap, sort, group) : NONE;
    }

    public int fetch(int set, int group) {
        if (!camp.floe.hasSet(set) || !isGroup(group)) {
            return NO_SUCH;
        }
        ice.look(camp);
        int all = 0;
        for (int kind = 0; kind < KINDS; kind++) {
            int spent = stores.fetchOf(ice, camp, set, group, kind, NONE, NONE);
            if (spent == NONE) {
                return NONE;
            }
            all += spent;
        }
        return all;
    }

    public int fetched(int set, int group, int heap, int sort) {
        if (!camp.floe.hasSet(set) || !isGroup(group) || !isHeap(heap)
                || !camp.floe.sorts.has(sort)) {
            return NO_SUCH;
        }
        ice.look(camp);
        int kind = camp.floe.sorts.at(sort, SORT_KIND);
        int spent = stores.fetchOf(ice, camp, set, group, kind, heap, sort);
        return spent == NONE ? NONE : stores.askedUnits();
    }

    // ---- weight near a crack, land ----

    public int thin(int crack, int n) {
        if (!camp.floe.cracks.has(crack) || n < 0 || n > MOST_ODDS) {
            return NO_SUCH;
        }
        int tons = camp.tonsNear(crack);
        for (int gone = 0; gone <= tons; gone++) {
            if (camp.floe.oddsUnder(crack, tons - gone) <= n) {
                return gone;
            }
        }
        return NONE;
    }

    public int apart(int x, int y) {
        if (!camp.floe.hasCell(x, y)) {
            return NO_SUCH;
        }
        int nearest = NONE;
        for (int crack = 0; crack < camp.floe.cracks.size; crack++) {
            int between = camp.floe.cellsBetween(crack, x, y);
            if (nearest == NONE || between < nearest) {
                nearest = between;
            }
        }
        return nearest;
    }

    public long miles(int day, int miles) {
        if (!camp.floe.isThere() || day < 0 || day > MOST_DAYS || miles < 0 || miles > MOST_MILES) {
            return NO_SUCH;
        }
        drift.begin(camp.floe.land);
        for (int d = 0; d < day; d++) {
            drift.passDay(camp.floe.drift);
        }
        return drift.partsAt(miles);
    }

    public int boats(int miles, int thousandths) {
        if (!camp.floe.isThere() || miles < 0 || miles > MOST_MILES
                || !isThousandths(thousandths) || thousandths == 0) {
            return NO_SUCH;
        }
        drift.begin(camp.floe.land);
        for (int day = 0; day <= MOST_DAYS; day++) {
            if (drift.partsWithin(miles) >= thousandths * THOUSANDTH) {
                return day;
            }
            drift.passDay(camp.floe.drift);
        }
        return NONE;
    }

    // ---- cracks learned, springs ----

    public int saw(int crack) {
        if (!camp.floe.cracks.has(crack)) {
            return NO_SUCH;
        }
        if (camp.seen[crack] >= MOST_SEEN) {
            return TOO_MANY;
        }
        camp.seen[crack]++;
        return camp.seen[crack];
    }

    public int pass(int n) {
        if (!camp.floe.isThere() || n < 0 || n > MOST_PASSED || camp.watched + n > MOST_WATCHED) {
            return NO_SUCH;
        }
        camp.watched += n;
        return camp.watched;
    }

    public int seam(int crack) {
        if (!camp.floe.cracks.has(crack)) {
            return NO_SUCH;
        }
        int hours = Math.max(0, camp.watched);
        return (100 * camp.oddsOf(crack) + 10000 * camp.seen[crack]) / (100 + hours);
    }

    public int run(int seed, int n) {
        if (!camp.floe.isThere() || !isSpring(seed, n)) {
            return NO_SUCH;
        }
        ice.look(camp);
        struck = ice.drawSpring(seed, n);
        camp.opened = ice.drawn;
        return camp.opened;
    }

    public int struck() {
        return struck;
    }

    public int springs(int seed, int n, int hours) {
        if (!camp.floe.isThere() || !isSpring(seed, hours) || n < 1 || n > MOST_SPRINGS) {
            return NO_SUCH;
        }
        ice.look(camp);
        int bad = 0;
        for (int i = 0; i < n; i++) {
            if (ice.drawSpring((long) seed + i, hours) != 0) {
                bad++;
            }
        }
        return bad;
    }

    // ---- counts, images, slots ----

    public int count(int what) {
        switch (what) {
            case 0:
                return camp.floe.wide;
            case 1:
                return camp.floe.deep;
            case 2:
                return camp.floe.people;
            case 3:
                return camp.floe.days;
            case 4:
                return camp.floe.cracks.size;
            case 5:
                return camp.floe.sorts.size;
            case 6:
                return camp.floe.others.size;
            case 7:
                return camp.heapsThere();
            case 8:
                return camp.opened;
            case 9:
                return camp.floe.lines;
            case 10:
                return reader.length;
            case 11:
                return camp.watched;
            case 12:
                return camp.sleepers();
            case 13:
                return rowsThere();
            default:
                return NONE;
        }
    }

    public int keep(int k) {
        Camp image = imageAt(k);
        if (image == null) {
            return NO_SUCH;
        }
        image.copyFrom(camp);
        kept[k] = true;
        return 0;
    }

    public int back(int k) {
        Camp image = imageAt(k);
        if (image == null) {
            return NO_SUCH;
        }
        if (!kept[k]) {
            return HAS_NOTHING;
        }
        camp.copyFrom(image);
        return 0;
    }

    public int row(int slot, int width, int n) {
        Row row = slotAt(slot);
        if (row == null || width < 0 || width >= WIDTHS || n > MOST_NUMBERS) {
            return NO_SUCH;
        }
        if (n < 0) {
            return TOO_MANY;
        }
        row.begin(width, n);
        return 0;
    }

    public int write(int slot, int i, long v) {
        Row row = slotAt(slot);
        if (row == null) {
            return NO_SUCH;
        }
        if (!row.there) {
            return HAS_NOTHING;
        }
        if (!row.hasNumbers(i, 1)) {
            return BEYOND_ROW;
        }
        row.putNumber(i, v);
        return 0;
    }

    public int paste(int slot, int i, int to, int k, int n) {
        Row from = slotAt(slot);
        Row onto = slotAt(to);
        if (from == null || onto == null) {
            return NO_SUCH;
        }
        if (!from.there || !onto.there) {
            return HAS_NOTHING;
        }
        if (from.width != onto.width) {
            return OTHER_WIDTH;
        }
        if (!from.hasNumbers(i, n) || !onto.hasNumbers(k, n)) {
            return BEYOND_ROW;
        }
        System.arraycopy(from.numbers, i, onto.numbers, k, n);
        return 0;
    }

    // ---- what the calls ask of their arguments ----

    private static boolean isHeap(int heap) {
        return heap >= 0 && heap < HEAPS;
    }

    private static boolean isGroup(int group) {
        return group >= 0 && group < GROUPS;
    }

    private static boolean isThousandths(int n) {
        return n >= 0 && n <= 1000;
    }

    private static boolean isCrew(int people, int days) {
        return people >= 0 && people <= MOST_PEOPLE && days >= 0 && days <= MOST_DAYS;
    }

    private static boolean isSpring(int seed, int hours) {
        return seed >= 0 && seed <= MOST_SEED && hours >= 0 && hours <= MOST_SPRING_HOURS;
    }

    private static int neededOf(int kind, int people, int days) {
        return kind == FOOD ? people * days : people;
    }

    private int cannotLay(int laying) {
        if (!camp.floe.isThere() || laying < 0 || laying >= LAYINGS) {
            return NO_SUCH;
        }
        return camp.heapsThere() == 0 ? NO_HEAP : 0;
    }

    private long unseenBy(int n) {
        long left = ALL_PARTS;
        for (int i = 0; i < n; i++) {
            left = left * (100 - camp.floe.sees) / 100;
        }
        return left;
    }

    private int rowsThere() {
        int there = 0;
        for (int i = 0; i < SLOTS; i++) {
            Row row = slotAt(i);
            if (row != null && row.there) {
                there++;
            }
        }
        return there;
    }

    private Row slotAt(int slot) {
        return slot >= 0 && slot < SLOTS ? slots[slot] : null;
    }

    private Camp imageAt(int k) {
        return k >= 0 && k < IMAGES ? images[k] : null;
    }

    /** Lines of one sort as they were told, each a row of numbers. */
    private static final class Table {
        private final int[][] rows;
        int size;

        Table(int most, int numbers) {
            rows = new int[Math.max(0, most)][Math.max(0, numbers)];
        }

        boolean has(int i) {
            return i >= 0 && i < size;
        }

        boolean isFull() {
            return size >= rows.length;
        }

        int at(int i, int column) {
            if (i < 0 || i >= rows.length || column < 0 || column >= rows[i].length) {
                return 0;
            }
            return rows[i][column];
        }

        /** A number of the line that is being told; the line counts only behind add(). */
        void tell(int column, int number) {
            if (size >= 0 && size < rows.length && column >= 0 && column < rows[size].length) {
                rows[size][column] = number;
            }
        }

        void add() {
            if (!isFull()) {
                size++;
            }
        }

        void copyFrom(Table other) {
            size = Math.min(other.size, rows.length);
            for (int i = 0; i < size; i++) {
                for (int column = 0; column < rows[i].length; column++) {
                    rows[i][column] = other.at(i, column);
                }
            }
        }
    }

    /** What the text told; without a floe it has no columns. */
    private static final class Floe {
        int wide;
        int deep;
        int people;
        int days;
        int lines;
        int swell;
        int warm;
        int shuts;
        int fetch;
        int across;
        int sees;
        int drift;
        int land;
        int breaks;
        int crossing;
        final Table cracks = new Table(MOST_CRACKS, CRACK_NUMBERS);
        final Table sorts = new Table(MOST_SORTS, SORT_NUMBERS);
        final Table others = new Table(MOST_OTHERS, OTHER_NUMBERS);

        Floe() {
            clear();
        }

        void clear() {
            wide = 0;
            deep = 0;
            people = 0;
            days = 0;
            lines = 0;
            swell = 0;
            warm = 0;
            shuts = 0;
            fetch = 1;
            across = 5;
            sees = 50;
            drift = 50;
            land = 20;
            breaks = 0;
            crossing = 0;
            cracks.size = 0;
            sorts.size = 0;
            others.size = 0;
        }

        void copyFrom(Floe other) {
            wide = other.wide;
            deep = other.deep;
            people = other.people;
            days = other.days;
            lines = other.lines;
            swell = other.swell;
            warm = other.warm;
            shuts = other.shuts;
            fetch = other.fetch;
            across = other.across;
            sees = other.sees;
            drift = other.drift;
            land = other.land;
            breaks = other.breaks;
            crossing = other.crossing;
            cracks.copyFrom(other.cracks);
            sorts.copyFrom(other.sorts);
            others.copyFrom(other.others);
        }

        boolean isThere() {
            return wide > 0;
        }

        boolean hasCell(int x, int y) {
            return x >= 0 && x < wide && y >= 0 && y < deep;
        }

        boolean hasSet(int set) {
            return isThere() && set >= 0 && set < 1 << cracks.size;
        }

        boolean tells(int kind) {
            for (int sort = 0; sort < sorts.size; sort++) {
                if (sorts.at(sort, SORT_KIND) == kind) {
                    return true;
                }
            }
            return false;
        }

        /**
         * The cracks (bits) that a cell lies beyond. Cracks run from edge to edge, so two cells
         * are on one piece just when no crack of the set is in one of their bits alone.
         */
        int beyond(int x, int y) {
            int bits = 0;
            for (int crack = 0; crack < cracks.size; crack++) {
                int side = cracks.at(crack, CRACK_ALONG) == 1 ? y : x;
                if (cracks.at(crack, CRACK_AT) <= side) {
                    bits |= 1 << crack;
                }
            }
            return bits;
        }

        int alongs() {
            int bits = 0;
            for (int crack = 0; crack < cracks.size; crack++) {
                bits |= cracks.at(crack, CRACK_ALONG) << crack;
            }
            return bits;
        }

        /** How many places the set's cracks of one way part: two may run at the same place. */
        int partings(int set, int along) {
            int places = 0;
            for (int crack = 0; crack < cracks.size; crack++) {
                if ((set >> crack & 1) == 1 && cracks.at(crack, CRACK_ALONG) == along) {
                    places |= 1 << cracks.at(crack, CRACK_AT);
                }
            }
            return Integer.bitCount(places);
        }

        int cellsBetween(int crack, int x, int y) {
            int at = cracks.at(crack, CRACK_AT);
            int side = cracks.at(crack, CRACK_ALONG) == 1 ? y : x;
            return side >= at ? side - at : at - 1 - side;
        }

        /**
         * Whether a cell lies to all cracks as its left or its upper neighbour does: then nothing
         * on it counts otherwise than there, and a search by rows has been there before.
         */
        boolean isLikeNeighbour(int x, int y) {
            return (x > 0 && isLike(x, y, x - 1, y)) || (y > 0 && isLike(x, y, x, y - 1));
        }

        int oddsUnder(int crack, int tons) {
            int all = cracks.at(crack, CRACK_ODDS)
                    + swell * cracks.at(crack, CRACK_SWELL)
                    + warm * cracks.at(crack, CRACK_WARM)
                    + cracks.at(crack, CRACK_WEIGHT) * tons / 100;
            if (cracks.at(crack, CRACK_OLD) == 1) {
                all *= 2;
            }
            return Math.min(all, MOST_ODDS);
        }

        private boolean isLike(int x, int y, int x2, int y2) {
            if (beyond(x, y) != beyond(x2, y2)) {
                return false;
            }
            for (int crack = 0; crack < cracks.size; crack++) {
                if ((cellsBetween(crack, x, y) == 0) != (cellsBetween(crack, x2, y2) == 0)) {
                    return false;
                }
            }
            return true;
        }
    }

    /** The tape, and its reading token by token into a draft; the first fault ends the reading. */
    private static final class Reader {
        private static final int END = 0;
        private static final int WORD = 1;
        private static final int NUMBER = 2;
        private static final int SIGN = 3;
        private static final int STRANGE = 4;

        private static final int MISPLACED = 1;
        private static final int OUT_OF_BOUNDS = 2;
        private static final int ONE_TOO_MANY = 3;

        private static final int ABOVE_ALL_BOUNDS = 1000000;

        private final byte[] tape = new byte[MOST_BYTES];
        int length;
        final Floe draft = new Floe();
        int fault;
        int place = NONE;
        private int behind;
        private int start;
        private int token;
        private int number;
        private int toldOnce;

        boolean hasRoom(int bytes) {
            return length + bytes <= MOST_BYTES;
        }

        void addNumber(int number) {
            for (int shift = 24; shift >= 0; shift -= 8) {
                if (length >= 0 && length < tape.length) {
                    tape[length] = (byte) (number >> shift);
                    length++;
                }
            }
        }

        void read() {
            draft.clear();
            fault = 0;
            place = NONE;
            behind = 0;
            toldOnce = 0;
            next();
            // a line without a fault takes a token at least, a token a byte
            for (int i = 0; i <= MOST_BYTES && fault == 0 && token != END; i++) {
                if (draft.lines == 0) {
                    readFloe();
                } else if (is("crack")) {
                    readCrack();
                } else if (is("sort")) {
                    readSort();
                } else if (is("other")) {
                    readOther();
                } else {
                    readSingle();
                }
                endLine();
            }
            length = 0;
        }

        private void readFloe() {
            take("floe");
            draft.wide = named("wide", 2, MOST_SIDE);
            draft.deep = named("deep", 2, MOST_SIDE);
            draft.people = named("people", 1, MOST_PEOPLE);
            draft.days = named("days", 1, MOST_DAYS);
        }

        private void readCrack() {
            Table cracks = draft.cracks;
            if (cracks.isFull()) {
                fail(ONE_TOO_MANY);
                return;
            }
            next();
            boolean along = is("along");
            if (along) {
                next();
            } else {
                take("down");
            }
            cracks.tell(CRACK_ALONG, along ? 1 : 0);
            cracks.tell(CRACK_AT, takeNumber(1, (along ? draft.deep : draft.wide) - 1));
            cracks.tell(CRACK_ODDS, named("odds", 0, 500));
            cracks.tell(CRACK_SWELL, named("swell", 0, 99));
            cracks.tell(CRACK_WARM, named("warm", 0, 99));
            cracks.tell(CRACK_WEIGHT, named("weight", 0, 99));
            boolean old = is("old");
            if (old) {
                take("old");
            }
            cracks.tell(CRACK_OLD, old ? 1 : 0);
            cracks.add();
        }

        private void readSort() {
            Table sorts = draft.sorts;
            if (sorts.isFull()) {
                fail(ONE_TOO_MANY);
                return;
            }
            next();
            sorts.tell(SORT_KIND, takeKind());
            sorts.tell(SORT_GIVES, named("gives", 1, 99));
            sorts.tell(SORT_TONS, named("tons", 1, 99));
            sorts.tell(SORT_MANY, named("many", 0, 20));
            sorts.add();
        }

        private void readOther() {
            Table others = draft.others;
            if (others.isFull()) {
                fail(ONE_TOO_MANY);
                return;
            }
            next();
            others.tell(OTHER_DAY, named("day", 1, MOST_DAYS));
            others.tell(OTHER_ODDS, named("odds", 0, 100));
            others.tell(OTHER_BREAKS, named("breaks", 0, 9999));
            others.add();
        }

        private void readSingle() {
            if (is("sea")) {
                takeOnce(0);
                draft.swell = named("swell", 0, 9);
                draft.warm = named("warm", 0, 9);
            } else if (is("shuts")) {
                takeOnce(1);
                draft.shuts = takeNumber(0, 100);
            } else if (is("fetch")) {
                takeOnce(2);
                draft.fetch = takeNumber(0, 60);
                draft.across = named("across", 0, 60);
            } else if (is("sees")) {
                takeOnce(3);
                draft.sees = takeNumber(0, 100);
            } else if (is("drift")) {
                takeOnce(4);
                draft.drift = takeNumber(0, 100);
                draft.land = named("land", 0, 60);
            } else if (is("breaks")) {
                takeOnce(5);
                draft.breaks = takeNumber(0, 9999);
                draft.crossing = named("crossing", 0, 9999);
            } else {
                fail(MISPLACED);
            }
        }

        private void endLine() {
            if (fault == 0 && token != SIGN) {
                fail(MISPLACED);
            }
            if (fault == 0) {
                draft.lines++;
                next();
            }
        }

        private int takeKind() {
            int kind = is("beds") ? BEDS : is("seats") ? SEATS : is("heat") ? HEAT : FOOD;
            if (kind == FOOD && !is("food")) {
                fail(MISPLACED);
                return FOOD;
            }
            next();
            return kind;
        }

        private void takeOnce(int which) {
            if ((toldOnce >> which & 1) == 1) {
                fail(OUT_OF_BOUNDS);
                return;
            }
            toldOnce |= 1 << which;
            next();
        }

        private int named(String word, int least, int most) {
            take(word);
            return takeNumber(least, most);
        }

        private void take(String word) {
            if (fault != 0) {
                return;
            }
            if (is(word)) {
                next();
            } else {
                fail(MISPLACED);
            }
        }

        private int takeNumber(int least, int most) {
            if (fault != 0) {
                return 0;
            }
            if (token != NUMBER) {
                fail(MISPLACED);
                return 0;
            }
            if (number < least || number > most) {
                fail(OUT_OF_BOUNDS);
                return 0;
            }
            int told = number;
            next();
            return told;
        }

        private void fail(int which) {
            if (fault == 0) {
                fault = which;
                place = start;
            }
        }

        private boolean is(String word) {
            if (token != WORD || behind - start != word.length()) {
                return false;
            }
            for (int i = 0; i < word.length(); i++) {
                if (byteAt(start + i) != word.charAt(i)) {
                    return false;
                }
            }
            return true;
        }

        private void next() {
            start = behind;
            while (start < length && (byteAt(start) == ' ' || byteAt(start) == '\n')) {
                start++;
            }
            behind = start;
            token = tokenOf(byteAt(start));
            number = 0;
            while (behind < length && tokenOf(byteAt(behind)) == token) {
                if (token == NUMBER) {
                    number = Math.min(ABOVE_ALL_BOUNDS, 10 * number + byteAt(behind) - '0');
                }
                behind++;
                if (token != WORD && token != NUMBER) {
                    break;
                }
            }
        }

        private static int tokenOf(int sign) {
            if (sign == NONE) {
                return END;
            }
            if (sign >= 'a' && sign <= 'z') {
                return WORD;
            }
            if (sign >= '0' && sign <= '9') {
                return NUMBER;
            }
            return sign == ';' ? SIGN : STRANGE;
        }

        /** A byte of the tape without its sign; NONE behind the end. */
        private int byteAt(int i) {
            return i >= 0 && i < length && i < tape.length ? tape[i] & 255 : NONE;
        }
    }

    /** All that an image keeps: the floe, what lies and who sleeps there, what is open, learned. */
    private static final class Camp {
        final Floe floe = new Floe();
        final int[] heapX = new int[HEAPS];
        final int[] heapY = new int[HEAPS];
        final int[][] units = new int[HEAPS][MOST_SORTS];
        final int[] groupX = new int[GROUPS];
        final int[] groupY = new int[GROUPS];
        final int[] groupSize = new int[GROUPS];
        int opened;
        final int[] seen = new int[MOST_CRACKS];
        int watched;
        private final int[] ring = new int[HEAPS];

        Camp() {
            for (int heap = 0; heap < HEAPS; heap++) {
                heapX[heap] = NONE;
            }
        }

        void begin(Floe told) {
            floe.copyFrom(told);
            for (int heap = 0; heap < HEAPS; heap++) {
                takeAway(heap);
            }
            for (int group = 0; group < GROUPS; group++) {
                placeGroup(group, 0, 0);
                groupSize[group] = group == 0 ? floe.people : 0;
            }
            opened = 0;
            for (int crack = 0; crack < MOST_CRACKS; crack++) {
                seen[crack] = 0;
            }
            watched = 0;
        }

        void copyFrom(Camp other) {
            floe.copyFrom(other.floe);
            for (int heap = 0; heap < HEAPS; heap++) {
                placeHeap(heap, other.heapX[heap], other.heapY[heap]);
                for (int sort = 0; sort < MOST_SORTS; sort++) {
                    units[heap][sort] = other.units[heap][sort];
                }
            }
            for (int group = 0; group < GROUPS; group++) {
                placeGroup(group, other.groupX[group], other.groupY[group]);
                groupSize[group] = other.groupSize[group];
            }
            opened = other.opened;
            for (int crack = 0; crack < MOST_CRACKS; crack++) {
                seen[crack] = other.seen[crack];
            }
            watched = other.watched;
        }

        boolean hasHeap(int heap) {
            return heap >= 0 && heap < HEAPS && heapX[heap] != NONE;
        }

        void placeHeap(int heap, int x, int y) {
            if (isHeap(heap)) {
                heapX[heap] = x;
                heapY[heap] = y;
            }
        }

        void takeAway(int heap) {
            placeHeap(heap, NONE, 0);
            for (int sort = 0; sort < MOST_SORTS && isHeap(heap); sort++) {
                units[heap][sort] = 0;
            }
        }

        void placeGroup(int group, int x, int y) {
            if (isGroup(group)) {
                groupX[group] = x;
                groupY[group] = y;
            }
        }

        int heapsThere() {
            int there = 0;
            for (int heap = 0; heap < HEAPS; heap++) {
                if (hasHeap(heap)) {
                    there++;
                }
            }
            return there;
        }

        int heapsWithSomething() {
            int full = 0;
            for (int heap = 0; heap < HEAPS; heap++) {
                if (tonsOf(heap) > 0) {
                    full++;
                }
            }
            return full;
        }

        int sleepers() {
            int all = 0;
            for (int group = 0; group < GROUPS; group++) {
                all += groupSize[group];
            }
            return all;
        }

        int unitsIn(int heap, int sort) {
            if (heap < 0 || heap >= HEAPS || sort < 0 || sort >= MOST_SORTS) {
                return 0;
            }
            return units[heap][sort];
        }

        int laidElsewhere(int heap, int sort) {
            int laid = 0;
            for (int other = 0; other < HEAPS; other++) {
                if (other != heap) {
                    laid += unitsIn(other, sort);
                }
            }
            return laid;
        }

        int tonsOf(int heap) {
            int tons = 0;
            for (int sort = 0; sort < floe.sorts.size; sort++) {
                tons += unitsIn(heap, sort) * floe.sorts.at(sort, SORT_TONS);
            }
            return tons;
        }

        int givenBy(int heap, int kind) {
            int given = 0;
            for (int sort = 0; sort < floe.sorts.size; sort++) {
                if (floe.sorts.at(sort, SORT_KIND) == kind) {
                    given += unitsIn(heap, sort) * floe.sorts.at(sort, SORT_GIVES);
                }
            }
            return given;
        }

        int tonsNear(int crack) {
            int tons = 0;
            for (int heap = 0; heap < HEAPS; heap++) {
                if (hasHeap(heap) && floe.cellsBetween(crack, heapX[heap], heapY[heap]) == 0) {
                    tons += tonsOf(heap);
                }
            }
            return tons;
        }

        int oddsOf(int crack) {
            return floe.oddsUnder(crack, tonsNear(crack));
        }

        int cracksBetween(int set, int heap, int group) {
            if (!isHeap(heap) || !isGroup(group)) {
                return 0;
            }
            int here = floe.beyond(heapX[heap], heapY[heap]);
            int there = floe.beyond(groupX[group], groupY[group]);
            return Integer.bitCount((here ^ there) & set);
        }

        int minutesOf(int set, int heap, int sort, int group) {
            if (!isHeap(heap) || !isGroup(group)) {
                return 0;
            }
            int steps = Math.abs(heapX[heap] - groupX[group])
                    + Math.abs(heapY[heap] - groupY[group]);
            return floe.sorts.at(sort, SORT_TONS) * steps * floe.fetch
                    + cracksBetween(set, heap, group) * floe.across;
        }

        /** Lays all units of all sorts on the first heaps there are, so many at most. */
        void layAll(int laying, int most) {
            int round = ringOfHeaps(laying == 0 ? 1 : most);
            takeUpAll();
            if (laying == 3) {
                layKind(true, round);
                int withSeats = ringOfSeats();
                layKind(false, withSeats == 0 ? ringOfHeaps(most) : withSeats);
                return;
            }
            int from = 0;
            for (int sort = 0; sort < floe.sorts.size; sort++) {
                from = laySort(sort, round, laying == 2 ? 0 : from);
            }
        }

        private void takeUpAll() {
            for (int heap = 0; heap < HEAPS; heap++) {
                for (int sort = 0; sort < MOST_SORTS; sort++) {
                    units[heap][sort] = 0;
                }
            }
        }

        private void layKind(boolean seats, int round) {
            int from = 0;
            for (int sort = 0; sort < floe.sorts.size; sort++) {
                if ((floe.sorts.at(sort, SORT_KIND) == SEATS) == seats) {
                    from = laySort(sort, round, from);
                }
            }
        }

        /** Lays a sort unit by unit round the ring; answers where the next unit would come. */
        private int laySort(int sort, int round, int from) {
            int at = from;
            for (int unit = 0; unit < floe.sorts.at(sort, SORT_MANY) && round > 0; unit++) {
                if (at < 0 || at >= round || at >= ring.length) {
                    at = 0;
                }
                if (isHeap(ring[at]) && sort >= 0 && sort < MOST_SORTS) {
                    units[ring[at]][sort]++;
                }
                at++;
            }
            return at;
        }

        private int ringOfHeaps(int most) {
            int round = 0;
            for (int heap = 0; heap < HEAPS && round < most; heap++) {
                if (hasHeap(heap)) {
                    ring[round] = heap;
                    round++;
                }
            }
            return round;
        }

        private int ringOfSeats() {
            int round = 0;
            for (int heap = 0; heap < HEAPS; heap++) {
                if (givenBy(heap, SEATS) > 0) {
                    ring[round] = heap;
                    round++;
                }
            }
            return round;
        }
    }

    /** Parts by sets of cracks, hour by hour, for a camp as it lay when it was looked at. */
    private static final class Ice {
        private static final int UNKNOWN = 0;
        private static final int ENOUGH = 1;
        private static final int SHORT = 2;

        int sets = 1;
        int drawn;
        private int opened;
        private int shuts;
        private final long[] parts = new long[1 << MOST_CRACKS];
        private final int[] known = new int[1 << MOST_CRACKS];
        private final int[] chance = new int[MOST_CRACKS];
        private final int[] groupSize = new int[GROUPS];
        private final int[] groupBeyond = new int[GROUPS];
        private final int[] heapBeyond = new int[HEAPS];
        private final int[][] given = new int[HEAPS][KINDS];
        private final int[] neededEach = new int[KINDS];

        /** Takes the camp as it lies now, all parts being of the set that is open. */
        void look(Camp camp) {
            Floe floe = camp.floe;
            sets = 1 << Math.min(floe.cracks.size, MOST_CRACKS);
            opened = camp.opened;
            shuts = floe.shuts;
            for (int set = 0; set < sets; set++) {
                parts[set] = set == opened ? ALL_PARTS : 0;
                known[set] = UNKNOWN;
            }
            for (int crack = 0; crack < floe.cracks.size && crack < MOST_CRACKS; crack++) {
                chance[crack] = floe.oddsUnder(crack, camp.tonsNear(crack));
            }
            for (int heap = 0; heap < HEAPS; heap++) {
                heapBeyond[heap] = floe.beyond(camp.heapX[heap], camp.heapY[heap]);
                for (int kind = 0; kind < KINDS; kind++) {
                    given[heap][kind] = camp.givenBy(heap, kind);
                }
            }
            for (int group = 0; group < GROUPS; group++) {
                groupSize[group] = camp.groupSize[group];
                groupBeyond[group] = floe.beyond(camp.groupX[group], camp.groupY[group]);
            }
            for (int kind = 0; kind < KINDS; kind++) {
                neededEach[kind] = floe.tells(kind) ? neededOf(kind, 1, floe.days) : 0;
            }
        }

        long partsOf(int set) {
            return set >= 0 && set < sets ? parts[set] : 0;
        }

        void passHour() {
            for (int crack = 0; crack < MOST_CRACKS && 1 << crack < sets; crack++) {
                for (int set = 0; set < sets; set++) {
                    int cracked = set | 1 << crack;
                    if (cracked != set && cracked < sets) {
                        long opening = parts[set] * chance[crack] / MOST_ODDS;
                        long shutting = parts[cracked] * shuts / 100;
                        parts[set] += shutting - opening;
                        parts[cracked] += opening - shutting;
                    }
                }
            }
        }

        /** Takes out the parts that are in a set that is not enough; answers how many. */
        long takeOutLost() {
            long gone = 0;
            for (int set = 0; set < sets; set++) {
                if (parts[set] != 0 && !isEnough(set)) {
                    gone += parts[set];
                    parts[set] = 0;
                }
            }
            return gone;
        }

        long lostIn(Camp camp, int hours) {
            look(camp);
            long gone = 0;
            for (int hour = 0; hour < hours; hour++) {
                passHour();
                gone += takeOutLost();
            }
            return gone;
        }

        boolean isEnough(int set) {
            if (set < 0 || set >= sets) {
                return false;
            }
            if (known[set] == UNKNOWN) {
                known[set] = ENOUGH;
                for (int group = 0; group < GROUPS; group++) {
                    for (int kind = 0; kind < KINDS && groupSize[group] > 0; kind++) {
                        if (shortOf(set, group, kind) > 0) {
                            known[set] = SHORT;
                        }
                    }
                }
            }
            return known[set] == ENOUGH;
        }

        /** How much of a kind lacks, each piece told by the first group with people on it. */
        int lacking(int set, int kind) {
            int all = 0;
            for (int group = 0; group < GROUPS; group++) {
                boolean first = groupSize[group] > 0;
                for (int other = 0; other < group; other++) {
                    if (groupSize[other] > 0
                            && isOnePiece(set, groupBeyond[other], groupBeyond[group])) {
                        first = false;
                    }
                }
                if (first) {
                    all += Math.max(0, shortOf(set, group, kind));
                }
            }
            return all;
        }

        /** How much more of a kind the people on a group's piece need than lies there. */
        int shortOf(int set, int group, int kind) {
            if (!isGroup(group) || kind < 0 || kind >= KINDS) {
                return 0;
            }
            int people = 0;
            for (int other = 0; other < GROUPS; other++) {
                if (isOnePiece(set, groupBeyond[other], groupBeyond[group])) {
                    people += groupSize[other];
                }
            }
            int there = 0;
            for (int heap = 0; heap < HEAPS; heap++) {
                if (isOnePiece(set, heapBeyond[heap], groupBeyond[group])) {
                    there += given[heap][kind];
                }
            }
            return people * neededEach[kind] - there;
        }

        boolean isHeapWith(int set, int heap, int group) {
            return isHeap(heap) && isGroup(group)
                    && isOnePiece(set, heapBeyond[heap], groupBeyond[group]);
        }

        /** Draws a spring from what is open; answers its first hour that is not enough, or 0. */
        int drawSpring(long seed, int hours) {
            long x = seed;
            int first = 0;
            drawn = opened;
            for (int hour = 1; hour <= hours; hour++) {
                for (int crack = 0; crack < MOST_CRACKS && 1 << crack < sets; crack++) {
                    x = (1103515245L * x + 12345L) & 2147483647L;
                    long draw = x / 65536 % 10000;
                    boolean isOpen = (drawn >> crack & 1) == 1;
                    if (draw < (isOpen ? 100 * shuts : chance[crack])) {
                        drawn ^= 1 << crack;
                    }
                }
                if (first == 0 && !isEnough(drawn)) {
                    first = hour;
                }
            }
            return first;
        }

        private static boolean isOnePiece(int set, int here, int there) {
            return ((here ^ there) & set) == 0;
        }
    }

    /** Layings, moves and beds tried by what is lost in an hour. */
    private static final class Trials {
        final Camp tried = new Camp();
        private final Ice ice = new Ice();
        private int movedHeap;
        private int movedX;
        private int movedY;

        long lostIfLaid(Camp camp, int laying, int most) {
            tried.copyFrom(camp);
            tried.layAll(laying, most);
            return ice.lostIn(tried, 1);
        }

        int bestLaying(Camp camp) {
            int best = 0;
            long least = lostIfLaid(camp, 0, HEAPS);
            for (int laying = 1; laying < LAYINGS; laying++) {
                long gone = lostIfLaid(camp, laying, HEAPS);
                if (gone < least) {
                    least = gone;
                    best = laying;
                }
            }
            return best;
        }

        int bestHeaps(Camp camp) {
            int best = 1;
            long least = lostIfLaid(camp, 1, 1);
            for (int most = 2; most <= camp.heapsThere() && most <= HEAPS; most++) {
                long gone = lostIfLaid(camp, 1, most);
                if (gone < least) {
                    least = gone;
                    best = most;
                }
            }
            return best;
        }

        int bestCellFor(Camp camp, int group) {
            tried.copyFrom(camp);
            int best = 0;
            long least = ALL_PARTS + 1;
            for (int y = 0; y < camp.floe.deep; y++) {
                for (int x = 0; x < camp.floe.wide; x++) {
                    if (!camp.floe.isLikeNeighbour(x, y)) {
                        tried.placeGroup(group, x, y);
                        long gone = ice.lostIn(tried, 1);
                        if (gone < least) {
                            least = gone;
                            best = x + 12 * y;
                        }
                    }
                }
            }
            return best;
        }

        int moveHeaps(Camp camp, int most) {
            int moves = 0;
            while (moves < most && findBetter(camp)) {
                camp.placeHeap(movedHeap, movedX, movedY);
                moves++;
            }
            return moves;
        }

        /** Tries each heap on every cell; whether some move betters, the best one being noted. */
        private boolean findBetter(Camp camp) {
            Floe floe = camp.floe;
            long now = ice.lostIn(camp, 1);
            long least = now;
            for (int heap = 0; heap < HEAPS; heap++) {
                int x0 = camp.heapX[heap];
                int y0 = camp.heapY[heap];
                // an empty heap counts nowhere
                boolean counts = camp.tonsOf(heap) > 0;
                for (int y = 0; y < floe.deep && counts; y++) {
                    for (int x = 0; x < floe.wide; x++) {
                        if (!floe.isLikeNeighbour(x, y)) {
                            camp.placeHeap(heap, x, y);
                            long gone = ice.lostIn(camp, 1);
                            if (gone < least) {
                                least = gone;
                                noteMove(heap, x, y);
                            }
                        }
                    }
                }
                camp.placeHeap(heap, x0, y0);
            }
            return least < now;
        }

        private void noteMove(int heap, int x, int y) {
            movedHeap = heap;
            movedX = x;
            movedY = y;
        }
    }

    /**
     * The least cost of units that give enough, need by need. Items are offered from the last to
     * the first, so that the fewest units of the first decide between equal costs; of one item
     * (the asked one) the units are carried along.
     */
    private static final class Stores {
        private final int[] cost = new int[MOST_PEOPLE * MOST_DAYS + 1];
        private final int[] asked = new int[MOST_PEOPLE * MOST_DAYS + 1];
        private int need;

        int askedUnits() {
            return need >= 0 && need < asked.length ? asked[need] : 0;
        }

        int costOf(int wanted) {
            return wanted >= 0 && wanted <= need && wanted < cost.length ? cost[wanted] : NONE;
        }

        /** Tons of a load that gives enough of a kind; NONE: it can't be. */
        int loadOf(Floe floe, int kind, int wanted, int askedSort) {
            if (!floe.tells(kind)) {
                return 0;
            }
            begin(wanted);
            for (int sort = floe.sorts.size - 1; sort >= 0; sort--) {
                if (floe.sorts.at(sort, SORT_KIND) == kind) {
                    offer(floe.sorts.at(sort, SORT_MANY), floe.sorts.at(sort, SORT_GIVES),
                            floe.sorts.at(sort, SORT_TONS), sort == askedSort);
                }
            }
            return costOf(need);
        }

        /** Tons of a load of all kinds from one on; NONE: it can't be. */
        int loadOfKinds(Floe floe, int first, int people, int days) {
            int all = 0;
            for (int kind = first; kind < KINDS; kind++) {
                int tons = loadOf(floe, kind, neededOf(kind, people, days), NONE);
                if (tons == NONE) {
                    return NONE;
                }
                all += tons;
            }
            return all;
        }

        /** Minutes for what the group's piece lacks of a kind; NONE: it can't be enough. */
        int fetchOf(Ice ice, Camp camp, int set, int group, int kind, int askedHeap,
                int askedSort) {
            Table sorts = camp.floe.sorts;
            begin(ice.shortOf(set, group, kind));
            for (int heap = HEAPS - 1; heap >= 0; heap--) {
                boolean away = camp.hasHeap(heap) && !ice.isHeapWith(set, heap, group);
                for (int sort = sorts.size - 1; sort >= 0 && away; sort--) {
                    if (sorts.at(sort, SORT_KIND) == kind) {
                        offer(camp.unitsIn(heap, sort), sorts.at(sort, SORT_GIVES),
                                camp.minutesOf(set, heap, sort, group),
                                heap == askedHeap && sort == askedSort);
                    }
                }
            }
            return costOf(need);
        }

        private void begin(int wanted) {
            need = Math.max(0, Math.min(wanted, cost.length - 1));
            for (int i = 0; i <= need; i++) {
                cost[i] = i == 0 ? 0 : NONE;
                asked[i] = 0;
            }
        }

        // from the greatest need down, as each need builds on lesser ones without this item
        private void offer(int units, int gives, int each, boolean isAsked) {
            for (int wanted = need; wanted > 0; wanted--) {
                int used = 0;
                int rest = wanted;
                int least = cost[wanted];
                for (int u = 1; u <= units; u++) {
                    int left = Math.max(0, wanted - u * gives);
                    if (cost[left] != NONE && (least == NONE || cost[left] + u * each < least)) {
                        least = cost[left] + u * each;
                        used = u;
                        rest = left;
                    }
                }
                cost[wanted] = least;
                asked[wanted] = isAsked ? used : asked[rest];
            }
        }
    }

    /** Worth by the floe one is on and the others seen near, worked from the last day back. */
    private static final class Going {
        private final long[][] worth = new long[MOST_OTHERS + 1][1 << MOST_OTHERS];
        private final long[][] evening = new long[MOST_OTHERS + 1][1 << MOST_OTHERS];

        static boolean canBe(Floe floe, int day, int on, int seen) {
            if (day < 1 || day > floe.days || on < 0 || on > floe.others.size) {
                return false;
            }
            return seen >= 0 && seen < 1 << floe.others.size && (on == 0 || isNear(on, seen));
        }

        long worthOf(int on, int seen) {
            if (on < 0 || on >= worth.length || seen < 0 || seen >= worth[on].length) {
                return 0;
            }
            return worth[on][seen];
        }

        /** Works worth back to the morning of a day; behind the last day all parts are left. */
        void workBackTo(Floe floe, int day) {
            begin();
            for (int d = floe.days; d >= day && d > 0; d--) {
                workDay(floe, d);
            }
        }

        int firstDayToGo(Floe floe) {
            int first = NONE;
            begin();
            for (int day = floe.days; day > 0; day--) {
                if (bestFrom(floe, 0, dueBy(floe, day)) != 0) {
                    first = day;
                }
                workDay(floe, day);
            }
            return first;
        }

        /** The floe on which the next morning is worth most. */
        int bestFrom(Floe floe, int on, int seen) {
            int best = on;
            long most = worthOfGoing(floe, on, on, seen);
            for (int to = 1; to <= floe.others.size; to++) {
                if (to != on && isNear(to, seen) && worthOfGoing(floe, on, to, seen) > most) {
                    best = to;
                    most = worthOfGoing(floe, on, to, seen);
                }
            }
            return best;
        }

        private void begin() {
            for (int on = 0; on <= MOST_OTHERS; on++) {
                for (int seen = 0; seen < 1 << MOST_OTHERS; seen++) {
                    worth[on][seen] = ALL_PARTS;
                }
            }
        }

        private void workDay(Floe floe, int day) {
            int others = Math.min(floe.others.size, MOST_OTHERS);
            for (int on = 0; on <= others; on++) {
                for (int seen = 0; seen < 1 << others; seen++) {
                    evening[on][seen] = worthOfGoing(floe, on, bestFrom(floe, on, seen), seen);
                }
                // others come in order: the last is mixed first, the first over all of them
                for (int other = others - 1; other >= 0; other--) {
                    if (floe.others.at(other, OTHER_DAY) <= day) {
                        mixComing(on, other, floe.others.at(other, OTHER_ODDS));
                    }
                }
            }
            for (int on = 0; on <= others; on++) {
                for (int seen = 0; seen < 1 << others; seen++) {
                    worth[on][seen] = evening[on][seen];
                }
            }
        }

        private void mixComing(int on, int other, long comes) {
            if (on < 0 || on >= evening.length) {
                return;
            }
            for (int seen = 0; seen < evening[on].length; seen++) {
                int then = seen | 1 << other;
                if (then != seen && then < evening[on].length) {
                    evening[on][seen] = (comes * evening[on][then]
                            + (100 - comes) * evening[on][seen]) / 100;
                }
            }
        }

        private long worthOfGoing(Floe floe, int on, int to, int seen) {
            int breaks = to == 0 ? floe.breaks : floe.others.at(to - 1, OTHER_BREAKS);
            long left = worthOf(to, seen) * (10000 - breaks) / 10000;
            return to == on ? left : left * (10000 - floe.crossing) / 10000;
        }

        private static int dueBy(Floe floe, int day) {
            int due = 0;
            for (int other = 0; other < floe.others.size; other++) {
                if (floe.others.at(other, OTHER_DAY) <= day) {
                    due |= 1 << other;
                }
            }
            return due;
        }

        private static boolean isNear(int to, int seen) {
            return to > 0 && (seen >> (to - 1) & 1) == 1;
        }
    }

    /** Parts by miles to land, day by day. */
    private static final class Drift {
        private final long[] parts = new long[MOST_MILES + 1];
        private final long[] moved = new long[MOST_MILES + 1];

        void begin(int land) {
            for (int miles = 0; miles <= MOST_MILES; miles++) {
                parts[miles] = miles == land ? ALL_PARTS : 0;
            }
        }

        void passDay(int drift) {
            for (int miles = 0; miles <= MOST_MILES; miles++) {
                moved[miles] = miles == 0 ? parts[0] : 0;
            }
            for (int miles = 1; miles <= MOST_MILES; miles++) {
                long nearer = parts[miles] * drift / 100;
                moved[Math.max(0, miles - 2)] += nearer;
                moved[Math.min(MOST_MILES, miles + 1)] += parts[miles] - nearer;
            }
            for (int miles = 0; miles <= MOST_MILES; miles++) {
                parts[miles] = moved[miles];
            }
        }

        long partsAt(int miles) {
            return miles >= 0 && miles <= MOST_MILES ? parts[miles] : 0;
        }

        long partsWithin(int miles) {
            long all = 0;
            for (int i = 0; i <= miles && i <= MOST_MILES; i++) {
                all += parts[i];
            }
            return all;
        }
    }

    /** A slot's row of numbers of one width, or nothing. */
    private static final class Row {
        final long[] numbers = new long[MOST_NUMBERS];
        boolean there;
        int width;
        int size;

        void begin(int width, int size) {
            there = true;
            this.width = width;
            this.size = Math.max(0, Math.min(size, MOST_NUMBERS));
            for (int i = 0; i < MOST_NUMBERS; i++) {
                numbers[i] = 0;
            }
        }

        boolean hasNumbers(int from, int n) {
            return from >= 0 && n >= 0 && from <= size && n <= size - from;
        }

        long numberAt(int i) {
            return hasNumbers(i, 1) ? numbers[i] : 0;
        }

        void putNumber(int i, long v) {
            if (hasNumbers(i, 1)) {
                numbers[i] = cut(v);
            }
        }

        private long cut(long v) {
            switch (width) {
                case 0:
                    return (byte) v;
                case 1:
                    return (short) v;
                case 2:
                    return (int) v;
                default:
                    return v;
            }
        }
    }
}
