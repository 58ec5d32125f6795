import java.util.Random;

/**
 * Any call with any arguments in any state answers, and twice the same. That is asked beyond an object's
 * 512th call too: what it answers then is free, but it must answer, and the same calls the same.
 */
public final class AnyCallTest {
    private static final Check CHECK = new Check("AnyCallTest");
    private static final int[] EDGES = {-2147483648, -2, -1, 0, 1, 2, 3, 4, 5, 6, 7, 8, 10, 12, 27, 28, 29, 48, 49,
        59, 60, 61, 63, 99, 100, 127, 128, 999, 1000, 1001, 9999, 10000, 2000000000, 2000000001, 2147483647};

    public static void main(String[] args) {
        for (int seed = 0; seed < 300; seed++) {
            Random one = new Random(seed);
            Random two = new Random(seed);
            PencilLine x = new PencilLine();
            PencilLine y = new PencilLine();
            for (int i = 0; i < 512; i++) {
                if (i % 128 == 5) {
                    String text = text(one);
                    text(two);
                    CHECK.due(seed + " floe", Check.floe(x, text), Check.floe(y, text));
                }
                CHECK.due(seed + " call " + i, call(one, x), call(two, y));
            }
        }
        CHECK.finish();
    }

    private static String text(Random random) {
        String text = Model.any(random, 20).text;
        if (random.nextInt(3) == 0) {
            int at = random.nextInt(text.length());
            text = text.substring(0, at) + (char) random.nextInt(256) + text.substring(at + random.nextInt(2));
        }
        return text.length() > 1600 ? text.substring(0, 1600) : text;
    }

    private static int any(Random random) {
        int way = random.nextInt(8);
        return way == 0 ? EDGES[random.nextInt(EDGES.length)] : way == 1 ? random.nextInt() : random.nextInt(6);
    }

    private static long call(Random r, PencilLine x) {
        int a = any(r);
        int b = any(r);
        int c = any(r);
        int d = any(r);
        int e = any(r);
        switch (r.nextInt(54)) {
            case 0: return x.feed(a, b, c, d, e);
            case 1: return x.end(a);
            case 2: return r.nextInt(30) == 0 ? x.floe() : 0;
            case 3: return x.fault(a);
            case 4: return x.heap(a, b, c);
            case 5: return x.put(a, b, c);
            case 6: return x.sleep(a, b, c, d);
            case 7: return x.open(a);
            case 8: return x.lies(a, b);
            case 9: return x.near(a);
            case 10: return x.odds(a);
            case 11: return x.piece(a, b, c);
            case 12: return x.pieces(a);
            case 13: return x.part(a);
            case 14: return x.with(a, r.nextBoolean());
            case 15: return x.enough(a);
            case 16: return x.lacks(a, b);
            case 17: return x.lost(a);
            case 18: return x.safe(a);
            case 19: return x.judge(a);
            case 20: return x.lay(a);
            case 21: return x.trial(a);
            case 22: return x.best();
            case 23: return x.betters(a);
            case 24: return x.gap();
            case 25: return x.heaps();
            case 26: return x.where(a);
            case 27: return x.watch(a);
            default: return later(r, x, new int[] {a, b, c, d, e});
        }
    }

    private static long later(Random r, PencilLine x, int[] n) {
        int a = n[0];
        int b = n[1];
        int c = n[2];
        int d = n[3];
        switch (r.nextInt(27)) {
            case 0: return x.watches(a);
            case 1: return x.alive(a, b, c);
            case 2: return x.go(a, b, c);
            case 3: return x.leave();
            case 4: return x.least(a, b, c);
            case 5: return x.load(a, b, c);
            case 6: return x.lasts(a, b);
            case 7: return x.across(a, b, c);
            case 8: return x.minutes(a, b, c, d);
            case 9: return x.fetch(a, b);
            case 10: return x.fetched(a, b, c, d);
            case 11: return x.thin(a, b);
            case 12: return x.apart(a, b);
            case 13: return x.miles(a, b);
            case 14: return x.boats(a, b);
            case 15: return x.saw(a);
            case 16: return x.pass(a);
            case 17: return x.seam(a);
            case 18: return x.run(a, b);
            case 19: return x.struck();
            case 20: return x.springs(a, b, c);
            case 21: return x.count(a);
            case 22: return x.keep(a);
            case 23: return x.back(a);
            case 24: return x.row(a, b, c);
            case 25: return x.write(a, b, (long) c << d);
            default: return x.paste(a, b, c, d, n[4]);
        }
    }
}
