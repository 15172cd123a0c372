import java.util.Arrays;
import java.util.Random;

/** Runs of calls by a fixed seed: the program answers as the oracle does, and nothing is ever thrown. */
public final class RandomRunsTest {
    private static final int RUNS = 8000, MOST_CALLS = 512;
    private static final int[] EDGES = {Integer.MIN_VALUE, -1, 0, 1, 60, 61, 99, 100, Integer.MAX_VALUE,
        Integer.MAX_VALUE - 1, 1 << 30};
    private static final Checks checks = new Checks();
    private static final int[] taken = new int[30];
    private static int calls;

    public static void main(String[] args) {
        for (int run = 0; run < RUNS; run++) {
            checks.begin("run " + run);
            oneRun(new Random(run));
        }
        checks.begin("cover");
        for (int call = 0; call < taken.length; call++) {
            checks.due("call " + call + " is answered, not only refused", taken[call] > 1000 ? 1 : 0, 1);
        }
        checks.end("RandomRunsTest");
    }

    private static void oneRun(Random by) {
        TowerTell x = new TowerTell();
        Oracle oracle = new Oracle();
        calls = 0;
        while (calls + 2 <= MOST_CALLS) {
            int kind = calls == 0 && by.nextInt(20) > 0 ? 0 : by.nextInt(60);
            if (kind == 0) {
                text(x, oracle, by);
            } else if (kind < 3) {
                pairs(x, oracle, by);
            } else {
                one(x, oracle, by.nextInt(30), anything(by));
            }
        }
    }

    /** One call and fault() behind it, unless the object has been used for as many calls as it may be. */
    private static void one(TowerTell x, Oracle oracle, int call, int... a) {
        if (calls + 2 > MOST_CALLS) {
            return;
        }
        calls += 2;
        long want = oracle.answer(call, a);
        checks.due("call " + call + " of " + Arrays.toString(a), answer(x, call, a), want);
        checks.due("fault() behind it", x.fault(), oracle.answer(28, a));
        if (want >= 0) {
            taken[call]++;
        }
    }

    /** What is asked of the oracle alone does not count as a call of the object. */
    private static int ask(Oracle oracle, int call, int... a) {
        return (int) oracle.answer(call, a);
    }

    private static int[] anything(Random by) {
        int[] a = new int[5];
        boolean wild = by.nextInt(4) == 0;
        for (int i = 0; i < a.length; i++) {
            int small = by.nextInt(by.nextInt(5) == 0 ? 24 : 4) - by.nextInt(60) / 58;
            a[i] = wild && by.nextInt(3) == 0 ? EDGES[by.nextInt(EDGES.length)] : small;
        }
        return a;
    }

    private static void write(TowerTell x, Oracle oracle, int sheet, int lane, int... cells) {
        one(x, oracle, 19, sheet, lane, cells.length, 0, 0);
        for (int i = 0; i < cells.length; i++) {
            one(x, oracle, 21, sheet, i, cells[i], 0, 0);
        }
    }

    /** A TEXT, now and then with a code spoilt, left out or added. */
    private static void text(TowerTell x, Oracle oracle, Random by) {
        StringBuilder text = new StringBuilder("u");
        for (int d = by.nextInt(6) + (by.nextInt(20) == 0 ? 1 : 0); d >= 0; d--) {
            text.append('-').append(by.nextInt(by.nextBoolean() ? 3 : 9) + 1);
        }
        for (int p = by.nextInt(4) + (by.nextInt(20) == 0 ? 1 : 0); p >= 0; p--) {
            text.append(',').append("pra".charAt(by.nextInt(3))).append(String.format("%02d", by.nextInt(64)))
                    .append(by.nextInt(5));
        }
        int spoil = by.nextInt(6);
        int at = by.nextInt(text.length());
        if (spoil == 0) {
            text.setCharAt(at, "u-,pra0123456789x".charAt(by.nextInt(17)));
        } else if (spoil == 1) {
            text.setLength(at);
        } else if (spoil == 2) {
            text.insert(at, "u-,pra0123456789x".charAt(by.nextInt(17)));
        }
        int lane = by.nextInt(3);
        write(x, oracle, by.nextInt(2), lane, Checks.codes(text.toString()));
        one(x, oracle, 0, 0, lane, 0, text.length(), 0);
        one(x, oracle, 0, 1, lane, 0, text.length(), 0);
    }

    /** A row of pairs, with all that is asked by such DAYS. */
    private static void pairs(TowerTell x, Oracle oracle, Random by) {
        int n = by.nextInt(by.nextInt(4) == 0 ? 21 : 6);
        int[] cells = new int[2 * n];
        int people = Math.max(1, ask(oracle, 29, 0));
        int deeds = Math.max(1, ask(oracle, 29, 1));
        for (int i = 0; i < cells.length; i++) {
            cells[i] = by.nextInt(i % 2 == 0 ? people : deeds) + by.nextInt(100) / 99;
        }
        int lane = by.nextInt(3);
        write(x, oracle, 3, lane, cells);
        for (int what = 0; what < 24; what++) {
            one(x, oracle, 8, 3, lane, 0, n, what);
        }
        int p = by.nextInt(people);
        int floor = ask(oracle, 8, 3, lane, 0, n, 10 + p);
        one(x, oracle, 13, p, by.nextInt(5) == 0 ? by.nextInt(12) : floor, 0, 0, 0);
        for (int d = 0; d < deeds; d++) {
            one(x, oracle, 15, d, 3, lane, 0, n);
        }
        for (int q = 0; q < people; q++) {
            one(x, oracle, 16, q, 3, lane, 0, n);
            one(x, oracle, 17, q, 3, lane, 0, n);
        }
        if (by.nextBoolean()) {
            one(x, oracle, 14, ask(oracle, 29, 2), 0, 0, 0, 0);
        }
    }

    private static long answer(TowerTell x, int call, int[] a) {
        switch (call) {
            case 0: return x.tower(a[0], a[1], a[2], a[3]);
            case 1: return x.ofPerson(a[0], a[1]);
            case 2: return x.weight(a[0]);
            case 3: return x.weigh(a[0], a[1]);
            case 4: return x.storeys(a[0], a[1]);
            case 5: return x.say(a[0], a[1]);
            case 6: return x.hush(a[0]);
            case 7: return x.landing(a[0]);
            case 8: return x.days(a[0], a[1], a[2], a[3], a[4]);
            case 9: return x.way(a[0], a[1]);
            case 10: return x.kept(a[0], a[1]);
            case 11: return x.roof(a[0]);
            case 12: return x.safe(a[0]);
            case 13: return x.reading(a[0], a[1]);
            case 14: return x.back(a[0]);
            case 15: return x.weights(a[0], a[1], a[2], a[3], a[4]);
            case 16: return x.kinds(a[0], a[1], a[2], a[3], a[4]);
            case 17: return x.knew(a[0], a[1], a[2], a[3], a[4]);
            case 18: return x.odds(a[0], a[1], a[2]);
            case 19: return x.sheet(a[0], a[1], a[2]);
            case 20: return x.lose(a[0]);
            case 21: return x.put(a[0], a[1], a[2]);
            case 22: return x.cell(a[0], a[1], a[2]);
            case 23: return x.copy(a[0], a[1], a[2], a[3], a[4]);
            case 24: return x.tell(a[0]);
            case 25: return x.greet(a[0]);
            case 26: return x.as(a[0], a[1]);
            case 27: return x.trace();
            case 28: return x.fault();
            default: return x.many(a[0]);
        }
    }
}
