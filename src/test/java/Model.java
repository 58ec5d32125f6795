import java.util.ArrayList;
import java.util.HashMap;
import java.util.List;
import java.util.Map;
import java.util.Random;
import java.util.TreeMap;

/**
 * The document's terms once more, told in another way and without any thrift: pieces by wandering
 * from cell to cell, parts in maps, loads and fetchings by trying all of them.
 */
final class Model {
    static final long ALL = 1000000000000L;

    int wide;
    int deep;
    int people;
    int days;
    int swell;
    int warm;
    int shuts;
    int fetch = 1;
    int across = 5;
    int sees = 50;
    int drift = 50;
    int land = 20;
    int breaks;
    int crossing;
    List<int[]> cracks = new ArrayList<>();
    List<int[]> sorts = new ArrayList<>();
    List<int[]> others = new ArrayList<>();
    TreeMap<Integer, int[]> heaps = new TreeMap<>();
    int[][] units = new int[8][6];
    int[][] groups = new int[4][3];
    int open;
    int[] seen = new int[7];
    int watched;
    String text;

    static Model any(Random random, int mostMany) {
        Model m = new Model();
        m.wide = 2 + random.nextInt(random.nextBoolean() ? 4 : 11);
        m.deep = 2 + random.nextInt(random.nextBoolean() ? 4 : 11);
        m.people = 1 + random.nextInt(random.nextBoolean() ? 5 : 28);
        m.days = 1 + random.nextInt(random.nextBoolean() ? 2 : 12);
        StringBuilder text = new StringBuilder();
        text.append("floe wide ").append(m.wide).append(" deep ").append(m.deep).append(" people ")
                .append(m.people).append(" days ").append(m.days).append(";");
        int cracks = random.nextInt(random.nextInt(8) == 0 ? 8 : 5);
        for (int i = 0; i < cracks; i++) {
            int along = random.nextInt(2);
            int[] c = {along, 1 + random.nextInt((along == 1 ? m.deep : m.wide) - 1), random.nextInt(501),
                random.nextInt(100), random.nextInt(100), random.nextInt(100), random.nextInt(3) / 2};
            m.cracks.add(c);
            text.append("crack ").append(along == 1 ? "along " : "down ").append(c[1]).append(" odds ")
                    .append(c[2]).append(" swell ").append(c[3]).append(" warm ").append(c[4])
                    .append(" weight ").append(c[5]).append(c[6] == 1 ? " old;" : ";");
        }
        m.singles(random, text);
        int sorts = random.nextInt(random.nextBoolean() ? 3 : 7);
        for (int i = 0; i < sorts; i++) {
            int[] s = {random.nextInt(4), 1 + random.nextInt(random.nextBoolean() ? 5 : 60),
                1 + random.nextInt(random.nextBoolean() ? 9 : 99), random.nextInt(mostMany + 1)};
            m.sorts.add(s);
            text.append("sort ").append(new String[] {"food", "beds", "seats", "heat"}[s[0]]).append(" gives ")
                    .append(s[1]).append(" tons ").append(s[2]).append(" many ").append(s[3]).append(";");
        }
        int others = random.nextInt(5);
        for (int i = 0; i < others; i++) {
            int[] o = {1 + random.nextInt(m.days + 2), random.nextInt(101), random.nextInt(3000)};
            m.others.add(o);
            text.append("other day ").append(o[0]).append(" odds ").append(o[1]).append(" breaks ")
                    .append(o[2]).append(";");
        }
        m.groups[0][2] = m.people;
        m.text = text.toString();
        return m;
    }

    private void singles(Random random, StringBuilder text) {
        if (random.nextInt(4) > 0) {
            swell = random.nextInt(10);
            warm = random.nextInt(10);
            text.append("sea swell ").append(swell).append(" warm ").append(warm).append(";");
        }
        if (random.nextInt(4) > 0) {
            shuts = random.nextInt(101);
            text.append("shuts ").append(shuts).append(";");
        }
        if (random.nextInt(4) > 0) {
            fetch = random.nextInt(4);
            across = random.nextInt(4);
            text.append("fetch ").append(fetch).append(" across ").append(across).append(";");
        }
        if (random.nextInt(4) > 0) {
            sees = random.nextInt(101);
            text.append("sees ").append(sees).append(";");
        }
        if (random.nextInt(4) > 0) {
            drift = random.nextInt(101);
            land = random.nextInt(61);
            text.append("drift ").append(drift).append(" land ").append(land).append(";");
        }
        if (random.nextInt(4) > 0) {
            breaks = random.nextInt(3000);
            crossing = random.nextInt(2000);
            text.append("breaks ").append(breaks).append(" crossing ").append(crossing).append(";");
        }
    }

    /** A new object with all as it is here. */
    PencilLine settled() {
        PencilLine x = Check.on(text);
        for (int heap : heaps.keySet()) {
            x.heap(heap, heaps.get(heap)[0], heaps.get(heap)[1]);
            for (int sort = 0; sort < sorts.size(); sort++) {
                x.put(heap, sort, units[heap][sort]);
            }
        }
        x.sleep(0, 0, 0, 0);
        for (int group = 0; group < 4; group++) {
            x.sleep(group, groups[group][0], groups[group][1], groups[group][2]);
        }
        x.open(open);
        return x;
    }

    int sets() {
        return 1 << cracks.size();
    }

    int tons(int heap) {
        int tons = 0;
        for (int s = 0; s < sorts.size(); s++) {
            tons += units[heap][s] * sorts.get(s)[2];
        }
        return tons;
    }

    int near(int crack) {
        int[] c = cracks.get(crack);
        int tons = 0;
        for (int heap : heaps.keySet()) {
            int side = heaps.get(heap)[c[0]];
            if (side == c[1] || side == c[1] - 1) {
                tons += tons(heap);
            }
        }
        return tons;
    }

    int odds(int crack) {
        int[] c = cracks.get(crack);
        int odds = c[2] + swell * c[3] + warm * c[4] + c[5] * near(crack) / 100;
        return Math.min(10000, odds * (1 + c[6]));
    }

    /** Labels of cells by wandering over all sides where no crack of the set runs. */
    int[][] wander(int set) {
        int[][] label = new int[wide][deep];
        int next = 0;
        for (int y = 0; y < deep; y++) {
            for (int x = 0; x < wide; x++) {
                if (label[x][y] == 0) {
                    spread(set, label, x, y, ++next);
                }
            }
        }
        return label;
    }

    private void spread(int set, int[][] label, int x, int y, int mark) {
        if (label[x][y] != 0) {
            return;
        }
        label[x][y] = mark;
        if (x + 1 < wide && !parted(set, 0, x + 1)) {
            spread(set, label, x + 1, y, mark);
        }
        if (x > 0 && !parted(set, 0, x)) {
            spread(set, label, x - 1, y, mark);
        }
        if (y + 1 < deep && !parted(set, 1, y + 1)) {
            spread(set, label, x, y + 1, mark);
        }
        if (y > 0 && !parted(set, 1, y)) {
            spread(set, label, x, y - 1, mark);
        }
    }

    private boolean parted(int set, int along, int at) {
        for (int c = 0; c < cracks.size(); c++) {
            if ((set >> c & 1) == 1 && cracks.get(c)[0] == along && cracks.get(c)[1] == at) {
                return true;
            }
        }
        return false;
    }

    boolean tells(int kind) {
        for (int[] s : sorts) {
            if (s[0] == kind) {
                return true;
            }
        }
        return false;
    }

    int needs(int kind, int p, int d) {
        return kind == 0 ? p * d : p;
    }

    int lacks(int set, int kind) {
        if (!tells(kind)) {
            return 0;
        }
        int[][] label = wander(set);
        Map<Integer, Integer> lack = new HashMap<>();
        for (int[] g : groups) {
            if (g[2] > 0) {
                lack.merge(label[g[0]][g[1]], needs(kind, g[2], days), Integer::sum);
            }
        }
        int all = 0;
        for (int mark : lack.keySet()) {
            int there = 0;
            for (int h : heaps.keySet()) {
                if (label[heaps.get(h)[0]][heaps.get(h)[1]] == mark) {
                    there += gives(h, kind);
                }
            }
            all += Math.max(0, lack.get(mark) - there);
        }
        return all;
    }

    int gives(int heap, int kind) {
        int there = 0;
        for (int s = 0; s < sorts.size(); s++) {
            if (sorts.get(s)[0] == kind) {
                there += units[heap][s] * sorts.get(s)[1];
            }
        }
        return there;
    }

    boolean enough(int set) {
        return lacks(set, 0) + lacks(set, 1) + lacks(set, 2) + lacks(set, 3) == 0;
    }

    Map<Integer, Long> hour(Map<Integer, Long> parts) {
        Map<Integer, Long> now = parts;
        for (int c = 0; c < cracks.size(); c++) {
            Map<Integer, Long> then = new TreeMap<>();
            for (int set : now.keySet()) {
                long all = now.get(set);
                boolean has = (set >> c & 1) == 1;
                long goes = has ? all * shuts / 100 : all * odds(c) / 10000;
                then.merge(set ^ 1 << c, goes, Long::sum);
                then.merge(set, all - goes, Long::sum);
            }
            now = then;
        }
        return now;
    }

    Map<Integer, Long> start() {
        Map<Integer, Long> parts = new TreeMap<>();
        parts.put(open, ALL);
        return parts;
    }

    long lost(int hours) {
        Map<Integer, Long> parts = start();
        Map<Integer, Boolean> enough = new HashMap<>();
        long lost = 0;
        for (int i = 0; i < hours; i++) {
            parts = hour(parts);
            Map<Integer, Long> left = new TreeMap<>();
            for (int set : parts.keySet()) {
                if (!enough.containsKey(set)) {
                    enough.put(set, enough(set));
                }
                if (enough.get(set)) {
                    left.put(set, parts.get(set));
                } else {
                    lost += parts.get(set);
                }
            }
            parts = left;
        }
        return lost;
    }

    void lay(int laying, int most) {
        List<Integer> round = new ArrayList<>();
        for (int h : heaps.keySet()) {
            if (round.size() < most) {
                round.add(h);
            }
        }
        for (int[] u : units) {
            java.util.Arrays.fill(u, 0);
        }
        List<Integer> line = new ArrayList<>();
        List<Integer> rest = new ArrayList<>();
        for (int s = 0; s < sorts.size(); s++) {
            for (int u = 0; u < sorts.get(s)[3]; u++) {
                if (laying == 0) {
                    units[round.get(0)][s]++;
                } else if (laying == 2) {
                    units[round.get(u % round.size())][s]++;
                } else if (laying == 3 && sorts.get(s)[0] != 2) {
                    rest.add(s);
                } else {
                    line.add(s);
                }
            }
        }
        for (int i = 0; i < line.size(); i++) {
            units[round.get(i % round.size())][line.get(i)]++;
        }
        List<Integer> seats = new ArrayList<>();
        for (int h : round) {
            if (gives(h, 2) > 0) {
                seats.add(h);
            }
        }
        List<Integer> over = seats.isEmpty() ? round : seats;
        for (int i = 0; i < rest.size(); i++) {
            units[over.get(i % over.size())][rest.get(i)]++;
        }
    }

    long trial(int laying, int most) {
        int[][] kept = new int[8][];
        for (int h = 0; h < 8; h++) {
            kept[h] = units[h].clone();
        }
        lay(laying, most);
        long lost = lost(1);
        units = kept;
        return lost;
    }

    /** The best move as heap, x, y; null if none betters. */
    int[] better() {
        long now = lost(1);
        long least = now;
        int[] best = null;
        for (int h : heaps.keySet()) {
            int[] was = heaps.get(h);
            for (int y = 0; y < deep; y++) {
                for (int x = 0; x < wide; x++) {
                    heaps.put(h, new int[] {x, y});
                    long lost = lost(1);
                    if (lost < least) {
                        least = lost;
                        best = new int[] {h, x, y};
                    }
                }
            }
            heaps.put(h, was);
        }
        return best;
    }

    int betters(int n) {
        for (int i = 0; i < n; i++) {
            int[] move = better();
            if (move == null) {
                return i;
            }
            heaps.put(move[0], new int[] {move[1], move[2]});
        }
        return n;
    }

    int where(int group) {
        int[] was = groups[group];
        long least = -1;
        int best = -1;
        for (int y = 0; y < deep; y++) {
            for (int x = 0; x < wide; x++) {
                groups[group] = new int[] {x, y, was[2]};
                long lost = lost(1);
                if (least < 0 || lost < least) {
                    least = lost;
                    best = x + 12 * y;
                }
            }
        }
        groups[group] = was;
        return best;
    }

    // ---- other floes, straight down from the day ----

    private final Map<Long, Long> worths = new HashMap<>();

    long morning(int day, int on, int seen) {
        if (day > days) {
            return ALL;
        }
        long key = day * 1000L + on * 100L + seen;
        if (!worths.containsKey(key)) {
            worths.put(key, coming(day, on, seen, 0));
        }
        return worths.get(key);
    }

    private long coming(int day, int on, int seen, int other) {
        if (other == others.size()) {
            return going(day, on, go(day, on, seen), seen);
        }
        int[] o = others.get(other);
        if ((seen >> other & 1) == 1 || day < o[0]) {
            return coming(day, on, seen, other + 1);
        }
        return (o[1] * coming(day, on, seen | 1 << other, other + 1)
                + (100 - o[1]) * coming(day, on, seen, other + 1)) / 100;
    }

    private long going(int day, int on, int to, int seen) {
        long left = morning(day + 1, to, seen) * (10000 - (to == 0 ? breaks : others.get(to - 1)[2])) / 10000;
        return to == on ? left : left * (10000 - crossing) / 10000;
    }

    int go(int day, int on, int seen) {
        long most = going(day, on, on, seen);
        int best = on;
        for (int to = 1; to <= others.size(); to++) {
            if (to != on && (seen >> (to - 1) & 1) == 1 && going(day, on, to, seen) > most) {
                most = going(day, on, to, seen);
                best = to;
            }
        }
        return best;
    }

    // ---- loads and fetchings: each item is units at most, gives, cost; all ways in order ----

    private long leastCost;
    private int[] leastUnits;

    /** The least cost at which items give so much, the first way of several; -1: none. */
    long choose(List<int[]> items, int need) {
        leastCost = -1;
        leastUnits = new int[items.size()];
        chooseFrom(items, 0, need, 0, new int[items.size()]);
        return leastCost;
    }

    int chosen(int item) {
        return leastUnits[item];
    }

    private void chooseFrom(List<int[]> items, int i, int need, long cost, int[] used) {
        if (i == items.size()) {
            if (need <= 0 && (leastCost < 0 || cost < leastCost)) {
                leastCost = cost;
                leastUnits = used.clone();
            }
            return;
        }
        for (int u = 0; u <= items.get(i)[0]; u++) {
            used[i] = u;
            chooseFrom(items, i + 1, need - u * items.get(i)[1], cost + (long) u * items.get(i)[2], used);
        }
        used[i] = 0;
    }

    List<int[]> loadItems(int kind) {
        List<int[]> items = new ArrayList<>();
        for (int[] s : sorts) {
            items.add(new int[] {s[0] == kind ? s[3] : 0, s[1], s[2]});
        }
        return items;
    }

    /** An item for each heap and sort; those that count not have no units. */
    List<int[]> fetchItems(int set, int group, int kind) {
        int[][] label = wander(set);
        int mark = label[groups[group][0]][groups[group][1]];
        List<int[]> items = new ArrayList<>();
        for (int h = 0; h < 8; h++) {
            boolean away = heaps.containsKey(h) && label[heaps.get(h)[0]][heaps.get(h)[1]] != mark;
            for (int s = 0; s < 6; s++) {
                boolean counts = away && s < sorts.size() && sorts.get(s)[0] == kind;
                items.add(counts
                        ? new int[] {units[h][s], sorts.get(s)[1], minutes(set, h, s, group)}
                        : new int[] {0, 1, 0});
            }
        }
        return items;
    }

    int fetchNeed(int set, int group, int kind) {
        int[][] label = wander(set);
        int mark = label[groups[group][0]][groups[group][1]];
        int p = 0;
        for (int[] g : groups) {
            if (label[g[0]][g[1]] == mark) {
                p += g[2];
            }
        }
        int need = tells(kind) ? needs(kind, p, days) : 0;
        for (int h : heaps.keySet()) {
            if (label[heaps.get(h)[0]][heaps.get(h)[1]] == mark) {
                need -= gives(h, kind);
            }
        }
        return need;
    }

    int between(int set, int heap, int group) {
        int n = 0;
        for (int c = 0; c < cracks.size(); c++) {
            int way = cracks.get(c)[0];
            int at = cracks.get(c)[1];
            int a = Math.min(heaps.get(heap)[way], groups[group][way]);
            int b = Math.max(heaps.get(heap)[way], groups[group][way]);
            if ((set >> c & 1) == 1 && at > a && at <= b) {
                n++;
            }
        }
        return n;
    }

    int minutes(int set, int heap, int sort, int group) {
        int steps = Math.abs(heaps.get(heap)[0] - groups[group][0])
                + Math.abs(heaps.get(heap)[1] - groups[group][1]);
        return sorts.get(sort)[2] * steps * fetch + across * between(set, heap, group);
    }

    // ---- land and springs ----

    Map<Integer, Long> miles(int behind) {
        Map<Integer, Long> now = new TreeMap<>();
        now.put(land, ALL);
        for (int day = 0; day < behind; day++) {
            Map<Integer, Long> then = new TreeMap<>();
            for (int at : now.keySet()) {
                long all = now.get(at);
                long nearer = at == 0 ? all : all * drift / 100;
                then.merge(at == 0 ? 0 : Math.max(0, at - 2), nearer, Long::sum);
                then.merge(Math.min(99, at + 1), all - nearer, Long::sum);
            }
            now = then;
        }
        return now;
    }

    /** A spring's last set, and the first hour that was not enough. */
    int[] spring(long seed, int hours) {
        java.math.BigInteger x = java.math.BigInteger.valueOf(seed);
        int set = open;
        int first = 0;
        for (int hour = 1; hour <= hours; hour++) {
            for (int c = 0; c < cracks.size(); c++) {
                x = x.multiply(java.math.BigInteger.valueOf(1103515245)).add(java.math.BigInteger.valueOf(12345))
                        .mod(java.math.BigInteger.valueOf(2147483648L));
                long draw = x.longValue() / 65536 % 10000;
                if ((set >> c & 1) == 0 && draw < odds(c)) {
                    set += 1 << c;
                } else if ((set >> c & 1) == 1 && draw < 100 * shuts) {
                    set -= 1 << c;
                }
            }
            if (first == 0 && !enough(set)) {
                first = hour;
            }
        }
        return new int[] {set, first};
    }
}
