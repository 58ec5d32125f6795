import java.util.List;
import java.util.Map;
import java.util.Random;

/**
 * Camps by chance, asked of the program and of the model. No object is asked more than 512 times: the model
 * settles a new one as it is settled itself.
 */
public final class ModelTest {
    private static final Check CHECK = new Check("ModelTest");

    public static void main(String[] args) {
        for (int seed = 0; seed < 400; seed++) {
            Random random = new Random(seed);
            Model m = Model.any(random, random.nextInt(3) == 0 ? 20 : 3);
            PencilLine x = new PencilLine();
            CHECK.due(seed + " floe " + m.text, Check.floe(x, m.text), m.text.split(";").length);
            settle(random, m, x, seed);
            ice(m, seed);
            enough(m, seed);
            trials(random, m, m.settled(), seed);
            going(m, seed);
            stores(random, m, m.settled(), seed);
            land(random, m, m.settled(), seed);
            learned(random, m, m.settled(), seed);
        }
        CHECK.finish();
    }

    private static void settle(Random random, Model m, PencilLine x, int seed) {
        int heaps = random.nextInt(random.nextInt(8) == 0 ? 9 : 4);
        for (int i = 0; i < heaps; i++) {
            int heap = random.nextInt(8);
            int[] cell = {random.nextInt(m.wide), random.nextInt(m.deep)};
            CHECK.due(seed + " heap", x.heap(heap, cell[0], cell[1]), m.heaps.containsKey(heap) ? 1 : 0);
            m.heaps.put(heap, cell);
        }
        for (int heap = 0; heap < 8; heap++) {
            for (int sort = 0; sort < m.sorts.size(); sort++) {
                int laid = 0;
                for (int h = 0; h < 8; h++) {
                    laid += h == heap ? 0 : m.units[h][sort];
                }
                int free = m.sorts.get(sort)[3] - laid;
                int n = random.nextInt(free + 2);
                boolean there = m.heaps.containsKey(heap);
                int due = !there ? -2 : n > free ? -3 : free - n;
                CHECK.due(seed + " put", x.put(heap, sort, n), due);
                if (due >= 0) {
                    m.units[heap][sort] = n;
                }
            }
        }
        int left = m.people;
        for (int group = 0; group < 4; group++) {
            int n = random.nextInt(left + 1) / (group == 3 ? 1 : 2);
            left -= n;
            m.groups[group] = new int[] {random.nextInt(m.wide), random.nextInt(m.deep), n};
        }
        x.sleep(0, 0, 0, 0);
        for (int group = 0; group < 4; group++) {
            x.sleep(group, m.groups[group][0], m.groups[group][1], m.groups[group][2]);
        }
        CHECK.due(seed + " sleepers", x.count(12), m.people - left);
        m.open = random.nextInt(3) == 0 ? random.nextInt(m.sets()) : 0;
        CHECK.due(seed + " open", x.open(m.open), 0);
    }

    private static void ice(Model m, int seed) {
        PencilLine x = m.settled();
        for (int c = 0; c < m.cracks.size(); c++) {
            CHECK.due(seed + " near", x.near(c), m.near(c));
            CHECK.due(seed + " odds", x.odds(c), m.odds(c));
        }
        Map<Integer, Long> parts = m.hour(m.start());
        long[][] with = new long[m.cracks.size() + 1][2];
        for (int set = 0; set < m.sets(); set++) {
            x = set % 16 == 15 ? m.settled() : x;
            int[][] label = m.wander(set);
            int most = 0;
            for (int[] column : label) {
                for (int mark : column) {
                    most = Math.max(most, mark);
                }
            }
            CHECK.due(seed + " pieces", x.pieces(set), most);
            pieces(m, x, seed, set, label);
            long part = parts.getOrDefault(set, 0L);
            CHECK.due(seed + " part", x.part(set), part);
            with[Integer.bitCount(set)][0] += part;
            with[Integer.bitCount(set)][1] += m.enough(set) ? 0 : part;
        }
        for (int n = 0; n < with.length; n++) {
            CHECK.due(seed + " with", x.with(n, false), with[n][0]);
            CHECK.due(seed + " with lost", x.with(n, true), with[n][1]);
        }
    }

    private static void pieces(Model m, PencilLine x, int seed, int set, int[][] label) {
        for (int i = 0; i < 6; i++) {
            int a = i * 7 % m.wide;
            int b = i * 5 % m.deep;
            int c = i * 3 % m.wide;
            int d = (i + 4) % m.deep;
            CHECK.holds(seed + " same piece",
                    (x.piece(set, a, b) == x.piece(set, c, d)) == (label[a][b] == label[c][d]));
        }
    }

    private static void enough(Model m, int seed) {
        PencilLine x = m.settled();
        for (int set = 0; set < m.sets(); set++) {
            x = set % 32 == 31 ? m.settled() : x;
            CHECK.due(seed + " enough", x.enough(set), m.enough(set) ? 1 : 0);
            for (int kind = 0; kind < 4; kind++) {
                CHECK.due(seed + " lacks", x.lacks(set, kind), m.lacks(set, kind));
            }
        }
        for (int hours : new int[] {1, 2, 7, 48}) {
            CHECK.due(seed + " lost", x.lost(hours), m.lost(hours));
        }
        for (int thousandths : new int[] {0, 3, 250, 999, 1000}) {
            int hours = 0;
            while (hours < 48 && m.lost(hours + 1) <= thousandths * 1000000000L) {
                hours++;
            }
            CHECK.due(seed + " safe", x.safe(thousandths), hours);
        }
    }

    private static void trials(Random random, Model m, PencilLine x, int seed) {
        for (int group = 0; group < 4; group++) {
            CHECK.due(seed + " where", x.where(group), m.where(group));
        }
        int best = 0;
        for (int laying = 0; laying < 4; laying++) {
            if (m.heaps.isEmpty()) {
                CHECK.due(seed + " trial without heaps", x.trial(laying), -5);
                CHECK.due(seed + " lay without heaps", x.lay(laying), -5);
                continue;
            }
            CHECK.due(seed + " trial", x.trial(laying), m.trial(laying, 8));
            best = m.trial(laying, 8) < m.trial(best, 8) ? laying : best;
        }
        CHECK.due(seed + " best", x.best(), m.heaps.isEmpty() ? -5 : best);
        int heaps = m.heaps.isEmpty() ? -5 : 1;
        for (int n = 2; n <= m.heaps.size(); n++) {
            heaps = m.trial(1, n) < m.trial(1, heaps) ? n : heaps;
        }
        CHECK.due(seed + " heaps", x.heaps(), heaps);
        if (!m.heaps.isEmpty() && random.nextBoolean()) {
            int laying = random.nextInt(4);
            m.lay(laying, 8);
            int full = 0;
            for (int heap = 0; heap < 8; heap++) {
                full += m.tons(heap) > 0 ? 1 : 0;
            }
            CHECK.due(seed + " lay", x.lay(laying), full);
        }
        same(m, x, seed);
        long now = m.lost(1);
        x.keep(0);
        long gap = x.gap();
        int most = random.nextInt(6);
        int moves = m.betters(most);
        CHECK.due(seed + " betters", x.betters(most), moves);
        same(m, x, seed);
        m.betters(5 - moves);
        CHECK.due(seed + " gap", gap, now - m.lost(1));
        x.betters(5 - moves);
        same(m, x, seed);
    }

    private static void same(Model m, PencilLine x, int seed) {
        for (int heap = 0; heap < 8; heap++) {
            int[] cell = m.heaps.get(heap);
            CHECK.due(seed + " x", x.lies(heap, 0), cell == null ? -1 : cell[0]);
            CHECK.due(seed + " y", x.lies(heap, 1), cell == null ? -1 : cell[1]);
            CHECK.due(seed + " tons", x.lies(heap, 2), cell == null ? -1 : m.tons(heap));
            for (int sort = 0; sort < m.sorts.size(); sort++) {
                CHECK.due(seed + " units", x.lies(heap, 3 + sort), cell == null ? -1 : m.units[heap][sort]);
            }
        }
    }

    private static void going(Model m, int seed) {
        int leave = -1;
        for (int day = m.days; day >= 1; day--) {
            int due = 0;
            for (int other = 0; other < m.others.size(); other++) {
                due |= m.others.get(other)[0] <= day ? 1 << other : 0;
            }
            leave = m.go(day, 0, due) != 0 ? day : leave;
        }
        CHECK.due(seed + " leave", m.settled().leave(), leave);
        for (int day = 1; day <= m.days; day += 1 + m.days / 3) {
            PencilLine x = m.settled();
            for (int on = 0; on <= m.others.size(); on++) {
                for (int seen = 0; seen < 1 << m.others.size(); seen++) {
                    boolean can = on == 0 || (seen >> (on - 1) & 1) == 1;
                    CHECK.due(seed + " alive", x.alive(day, on, seen), can ? m.morning(day, on, seen) : -2);
                    CHECK.due(seed + " go", x.go(day, on, seen), can ? m.go(day, on, seen) : -2);
                }
            }
        }
    }

    /** How many ways there are to try; many of them are passed over. */
    private static long ways(List<int[]> items) {
        double ways = 1;
        for (int[] item : items) {
            ways *= item[0] + 1;
        }
        return ways > 20000 ? 20000 : (long) ways;
    }

    private static void stores(Random random, Model m, PencilLine x, int seed) {
        int people = random.nextInt(29);
        int days = random.nextInt(12);
        long all = 0;
        for (int kind = 0; kind < 4; kind++) {
            List<int[]> items = m.loadItems(kind);
            if (ways(items) == 20000) {
                all = -2;
                continue;
            }
            long tons = m.choose(items, m.tells(kind) ? m.needs(kind, people, days) : 0);
            CHECK.due(seed + " least", x.least(people, days, kind), tons);
            for (int sort = 0; sort < m.sorts.size(); sort++) {
                if (m.sorts.get(sort)[0] == kind) {
                    CHECK.due(seed + " load", x.load(people, days, sort), tons < 0 ? -1 : m.chosen(sort));
                }
            }
            all = all < 0 ? all : tons < 0 ? -1 : all + tons;
        }
        if (all != -2) {
            CHECK.due(seed + " least of all", x.least(people, days, -1), all);
        }
        int tons = random.nextInt(60);
        int lasts = -1;
        for (int d = 0; d <= 60; d++) {
            int load = x.least(people, d, -1);
            lasts = load >= 0 && load <= tons ? d : lasts;
        }
        CHECK.due(seed + " lasts", x.lasts(people, tons), lasts);
        for (int i = 0; i < 3; i++) {
            fetching(m, m.settled(), seed, random.nextInt(m.sets()), random.nextInt(4));
        }
    }

    private static void fetching(Model m, PencilLine x, int seed, int set, int group) {
        long all = 0;
        for (int kind = 0; kind < 4; kind++) {
            List<int[]> items = m.fetchItems(set, group, kind);
            if (ways(items) == 20000) {
                return;
            }
            long minutes = m.choose(items, m.fetchNeed(set, group, kind));
            for (int heap = 0; heap < 8; heap++) {
                for (int sort = 0; sort < m.sorts.size(); sort++) {
                    if (m.sorts.get(sort)[0] == kind) {
                        CHECK.due(seed + " fetched", x.fetched(set, group, heap, sort),
                                minutes < 0 ? -1 : m.chosen(6 * heap + sort));
                        CHECK.due(seed + " minutes", x.minutes(set, heap, sort, group),
                                m.heaps.containsKey(heap) ? m.minutes(set, heap, sort, group) : -1);
                    }
                }
                CHECK.due(seed + " across", x.across(set, heap, group),
                        m.heaps.containsKey(heap) ? m.between(set, heap, group) : -1);
            }
            all = all < 0 || minutes < 0 ? -1 : all + minutes;
        }
        CHECK.due(seed + " fetch", x.fetch(set, group), all);
    }

    private static void land(Random random, Model m, PencilLine x, int seed) {
        int day = random.nextInt(61);
        Map<Integer, Long> parts = m.miles(day);
        for (int miles = 0; miles < 100; miles++) {
            CHECK.due(seed + " miles", x.miles(day, miles), parts.getOrDefault(miles, 0L));
        }
        int miles = random.nextInt(60);
        int thousandths = 1 + random.nextInt(1000);
        int boats = -1;
        for (int d = 60; d >= 0; d--) {
            long within = 0;
            for (Map.Entry<Integer, Long> at : m.miles(d).entrySet()) {
                within += at.getKey() <= miles ? at.getValue() : 0;
            }
            boats = within >= thousandths * 1000000000L ? d : boats;
        }
        CHECK.due(seed + " boats", x.boats(miles, thousandths), boats);
        for (int n = 0; n <= 28; n++) {
            long left = Model.ALL;
            for (int i = 0; i < n; i++) {
                left = left * (100 - m.sees) / 100;
            }
            CHECK.due(seed + " watch", x.watch(n), left);
        }
    }

    private static void learned(Random random, Model m, PencilLine x, int seed) {
        for (int c = 0; c < m.cracks.size(); c++) {
            for (int i = random.nextInt(3); i > 0; i--) {
                CHECK.due(seed + " saw", x.saw(c), ++m.seen[c]);
            }
        }
        m.watched = random.nextInt(100);
        CHECK.due(seed + " pass", x.pass(m.watched), m.watched);
        for (int c = 0; c < m.cracks.size(); c++) {
            CHECK.due(seed + " seam", x.seam(c), (100 * m.odds(c) + 10000 * m.seen[c]) / (100 + m.watched));
        }
        int start = random.nextInt(2000000001);
        int n = 1 + random.nextInt(6);
        int hours = random.nextInt(20);
        int bad = 0;
        for (int i = 0; i < n; i++) {
            bad += m.spring((long) start + i, hours)[1] > 0 ? 1 : 0;
        }
        CHECK.due(seed + " springs", x.springs(start, n, hours), bad);
        int[] spring = m.spring(start, hours);
        CHECK.due(seed + " run", x.run(start, hours), spring[0]);
        CHECK.due(seed + " struck", x.struck(), spring[1]);
        CHECK.due(seed + " set behind it", x.count(8), spring[0]);
    }
}
