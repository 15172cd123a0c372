import java.lang.reflect.Array;
import java.math.BigInteger;
import java.util.ArrayList;
import java.util.List;
import java.util.Map;
import java.util.function.IntFunction;
import java.util.function.IntPredicate;
import java.util.function.Supplier;
import java.util.regex.Matcher;
import java.util.regex.Pattern;
import java.util.stream.IntStream;

/**
 * The document's words once more, in another form than the program's: for random runs, in which both must agree.
 * Refusals and faults are thrown here, and caught around each call.
 */
final class Oracle {
    private static final Pattern TEXT =
            Pattern.compile("u((?:-[1-9]){1,6})((?:,[pra](?:[0-5][0-9]|6[0-3])[0-4]){1,4})");

    private static final class Stop extends RuntimeException {
        private static final long serialVersionUID = 1L;
        final int answer;

        Stop(int answer) {
            super(null, null, false, false);
            this.answer = answer;
        }
    }

    private record Person(char letter, int done, int whom, List<Integer> told) {
        Person with(char newLetter, int newWhom) {
            return new Person(newLetter, done, newWhom, new ArrayList<>(told));
        }

        boolean did(int d) {
            return (done >> d) % 2 == 1;
        }

        int toldSet() {
            return told.stream().mapToInt(d -> 1 << d).sum();
        }
    }

    private record World(List<Integer> weights, List<Person> people) {
        World copied() {
            List<Person> all = new ArrayList<>();
            people.forEach(one -> all.add(one.with(one.letter, one.whom)));
            return new World(new ArrayList<>(weights), all);
        }

        int rise(int p, int d) {
            int w = weights.get(d);
            return Map.of('p', w, 'r', w - 1, 'a', w + w).get(people.get(p).letter);
        }

        int floor(int p) {
            return people.get(p).told.stream().mapToInt(d -> rise(p, d)).sum();
        }

        boolean catches(int p, int d) {
            return !people.get(p).did(d) && IntStream.range(0, people.size())
                    .anyMatch(q -> q != p && people.get(q).whom == p && floor(q) == floor(p));
        }

        boolean told(int p, int d) {
            return people.get(p).told.contains(d);
        }

        boolean tellCatches(int p, int d) {
            if (catches(p, d)) {
                people.get(p).told.clear();
                return true;
            }
            people.get(p).told.add(d);
            return false;
        }

        int[] truths(int p) {
            return IntStream.range(0, weights.size()).filter(people.get(p)::did).toArray();
        }

        /** All sets of TRUTHS of one, by choosing among them, with the FLOOR of each: {set, FLOOR}. */
        List<int[]> sets(int p) {
            List<int[]> all = new ArrayList<>(List.of(new int[] {0, 0}));
            for (int d : truths(p)) {
                for (int[] one : List.copyOf(all)) {
                    all.add(new int[] {one[0] + (1 << d), one[1] + rise(p, d)});
                }
            }
            return all;
        }
    }

    private World world = new World(new ArrayList<>(), new ArrayList<>());
    private final List<int[]> readings = new ArrayList<>();
    private final Object[] sheets = new Object[4];
    private int trace;
    private int fault;

    /** The call of a number in the order of the document's face, with as many of the numbers as it takes. */
    long answer(int call, int[] a) {
        boolean namesFaults = List.of(0, 8, 15, 16, 17, 19, 21, 22, 23, 26).contains(call);
        boolean isLong = call == 18 || call == 22;
        try {
            long answer = plain(call, a);
            fault = namesFaults ? 0 : fault;
            return answer;
        } catch (Stop stop) {
            boolean isFault = stop.answer <= -11 && stop.answer >= -14;
            fault = !namesFaults ? fault : isFault ? -10 - stop.answer : 0;
            return isLong ? Long.MIN_VALUE : stop.answer;
        }
    }

    private long plain(int call, int[] a) {
        switch (call) {
            case 0: return tower(a[0], a[1], a[2], a[3]);
            case 1: person(a[0]); return ofPerson(world.people.get(a[0]), a[0], a[1]);
            case 2: deed(a[0]); return world.weights.get(a[0]);
            case 3: deed(a[0]); range(a[1], 1, 9); return world.weights.set(a[0], a[1]);
            case 4: person(a[0]); deed(a[1]); return world.rise(a[0], a[1]);
            case 5: return say(a[0], a[1]);
            case 6: return hush(a[0]);
            case 7: need(!world.people.isEmpty(), -3); least(a[0]); return people(p -> world.floor(p) == a[0]);
            case 8: return days(a[0], a[1], a[2], a[3], a[4]);
            case 9: person(a[0]); least(a[1]); return way(a[0], a[1]);
            case 10: person(a[0]); least(a[1]); return kept(a[0], a[1]);
            case 11: person(a[0]); return world.sets(a[0]).stream().mapToInt(s -> s[1]).max().getAsInt();
            case 12: person(a[0]); return safe(a[0]);
            case 13: return reading(a[0], a[1]);
            case 14: range(a[0], 0, readings.size()); return back(a[0]);
            case 15: deed(a[0]); return guess(a, 1, 9, v -> weighed(a[0], v));
            case 16: person(a[0]); return guess(a, 0, 2, v -> changed(a[0], "pra".charAt(v), -1));
            case 17: person(a[0]); return guess(a, 0, 4, v -> changed(a[0], '-', v));
            case 18: person(a[0]); least(a[1]); range(a[2], 0, 1); return odds(a[0], a[1], a[2]);
            case 19: return sheet(a[0], a[1], a[2]);
            case 20: need(isSheet(a[0]), -1); return lose(a[0]);
            case 21: return put(a[0], a[1], a[2]);
            case 22: need(isSheet(a[0]), -1); range(a[2], 0, 2); return row(a[0], a[2], a[1], 1)[0];
            case 23: return copy(a[0], a[1], a[2], a[3], a[4]);
            case 24: person(a[0]); return tell(world.people.get(a[0]));
            case 25: person(a[0]); return greet(a[0]);
            case 26: person(a[0]); range(a[1], 0, 2); return as(world.people.get(a[0]).letter, a[1]);
            case 27: return trace;
            case 28: return fault;
            default: range(a[0], 0, 2);
                return List.of(world.people.size(), world.weights.size(), readings.size()).get(a[0]);
        }
    }

    private static void need(boolean so, int answer) {
        if (!so) {
            throw new Stop(answer);
        }
    }

    private static void range(int v, int low, int high) {
        need(v >= low && v <= high, -2);
    }

    private static void least(int f) {
        range(f, 0, Integer.MAX_VALUE);
    }

    private void person(int p) {
        need(p >= 0 && p < world.people.size(), -1);
    }

    private void deed(int d) {
        need(d >= 0 && d < world.weights.size(), -1);
    }

    private static boolean isSheet(int k) {
        return k >= 0 && k < 4;
    }

    private static int size(Object row) {
        return Array.getLength(row);
    }

    private static int laneOf(Object row) {
        return row instanceof byte[] ? 0 : row instanceof short[] ? 1 : 2;
    }

    private int[] row(int k, int lane, int i, int n) {
        need(sheets[k] == null || laneOf(sheets[k]) == lane, -12);
        need(sheets[k] != null, -11);
        need(n >= 0, -14);
        need(i >= 0 && (long) i + n <= size(sheets[k]), -13);
        return IntStream.range(i, i + n).map(at -> Array.getInt(sheets[k], at)).toArray();
    }

    private int tower(int k, int lane, int i, int n) {
        need(isSheet(k), -1);
        range(lane, 0, 2);
        int[] codes = row(k, lane, i, n);
        StringBuilder text = new StringBuilder();
        for (int code : codes) {
            text.append(code > 0 && code < 128 ? (char) code : '?');
            Matcher so = TEXT.matcher(text);
            need(so.matches() || so.hitEnd(), -100 - (text.length() - 1));
        }
        Matcher whole = TEXT.matcher(text);
        need(whole.matches(), -100 - n);
        world = new World(new ArrayList<>(), new ArrayList<>());
        readings.clear();
        for (String weight : whole.group(1).substring(1).split("-")) {
            world.weights.add(Integer.parseInt(weight));
        }
        for (String one : whole.group(2).substring(1).split(",")) {
            world.people.add(new Person(one.charAt(0), Integer.parseInt(one.substring(1, 3)),
                    Integer.parseInt(one.substring(3)), new ArrayList<>()));
        }
        return world.people.size();
    }

    private int ofPerson(Person one, int p, int what) {
        range(what, 0, 4);
        List<Supplier<Integer>> answers = List.of(() -> "pra".indexOf(one.letter),
                () -> IntStream.of(world.truths(p)).map(d -> 1 << d).sum(), () -> one.whom,
                () -> one.toldSet(), () -> world.floor(p));
        return answers.get(what).get();
    }

    private int say(int p, int d) {
        person(p);
        deed(d);
        need(!world.told(p, d), -3);
        world.tellCatches(p, d);
        return world.floor(p);
    }

    private int hush(int p) {
        person(p);
        int was = world.floor(p);
        world.people.get(p).told.clear();
        return was;
    }

    private int people(IntPredicate so) {
        return IntStream.range(0, world.people.size()).filter(so).map(p -> 1 << p).sum();
    }

    private int[] pairs(int k, int lane, int i, int n) {
        int[] cells = row(k, lane, i, 2 * n);
        need(!world.people.isEmpty(), -3);
        for (int at = 0; at < cells.length; at++) {
            if (at % 2 == 0) {
                person(cells[at]);
            } else {
                deed(cells[at]);
            }
        }
        return cells;
    }

    /** {how often CAUGHT, FIRST WRONG}. */
    private static int[] live(World in, int[] pairs) {
        int caught = 0;
        for (int at = 0; at < pairs.length; at += 2) {
            if (in.told(pairs[at], pairs[at + 1])) {
                return new int[] {caught, at / 2};
            }
            caught += in.tellCatches(pairs[at], pairs[at + 1]) ? 1 : 0;
        }
        return new int[] {caught, -9};
    }

    private int days(int k, int lane, int i, int n, int what) {
        need(isSheet(k), -1);
        range(lane, 0, 2);
        range(n, 0, 20);
        need(List.of(0, 1, 2, 10, 11, 12, 13, 20, 21, 22, 23).contains(what), -2);
        int[] pairs = pairs(k, lane, i, n);
        World then = world.copied();
        int[] lived = live(then, pairs);
        if (what == 1) {
            return lived[1];
        }
        need(lived[1] == -9, -100 - lived[1]);
        if (what == 0) {
            return lived[0];
        }
        if (what == 2) {
            return IntStream.range(0, then.people.size()).map(then::floor).max().getAsInt();
        }
        int p = what % 10;
        if (p >= then.people.size()) {
            return -9;
        }
        return what < 20 ? then.floor(p) : then.people.get(p).toldSet();
    }

    private int way(int p, int f) {
        return world.sets(p).stream().filter(s -> s[1] == f).mapToInt(s -> s[0]).boxed()
                .min((s, t) -> Integer.bitCount(s) != Integer.bitCount(t)
                        ? Integer.bitCount(s) - Integer.bitCount(t) : s - t).orElse(-9);
    }

    private int kept(int p, int f) {
        return world.sets(p).stream().filter(s -> s[1] == f).mapToInt(s -> s[0]).reduce((s, t) -> s & t).orElse(-9);
    }

    private int safe(int p) {
        return IntStream.range(0, world.weights.size())
                .filter(d -> !world.told(p, d) && !world.copied().tellCatches(p, d)).map(d -> 1 << d).sum();
    }

    private int reading(int p, int f) {
        person(p);
        range(f, 0, 99);
        need(readings.size() < 8, -4);
        readings.add(new int[] {p, f});
        return readings.size() - 1;
    }

    private int back(int k) {
        for (int left = k; left > 0; left--) {
            readings.remove(readings.size() - 1);
        }
        return readings.size();
    }

    private World weighed(int d, int v) {
        World other = world.copied();
        other.weights.set(d, v);
        return other;
    }

    private World changed(int p, char letter, int whom) {
        World other = world.copied();
        Person one = other.people.get(p);
        other.people.set(p, one.with(letter == '-' ? one.letter : letter, whom < 0 ? one.whom : whom));
        return other;
    }

    private int guess(int[] a, int low, int high, IntFunction<World> by) {
        need(isSheet(a[1]), -1);
        range(a[2], 0, 2);
        range(a[4], 0, 20);
        int[] pairs = pairs(a[1], a[2], a[3], a[4]);
        return IntStream.rangeClosed(low, high).filter(v -> {
            World other = by.apply(v);
            return live(other, pairs)[1] == -9 && readings.stream().allMatch(r -> other.floor(r[0]) == r[1]);
        }).map(v -> 1 << v).sum();
    }

    private long odds(int p, int f, int which) {
        List<int[]> sets = world.sets(p);
        long upper = sets.stream().filter(s -> s[1] >= f).count();
        long common = BigInteger.valueOf(upper).gcd(BigInteger.valueOf(sets.size())).longValue();
        return (which == 0 ? upper : sets.size()) / common;
    }

    private int sheet(int k, int lane, int n) {
        need(isSheet(k), -1);
        range(lane, 0, 2);
        range(n, Integer.MIN_VALUE, 60);
        need(n >= 0, -14);
        sheets[k] = lane == 0 ? new byte[n] : lane == 1 ? new short[n] : new int[n];
        return 1;
    }

    private int lose(int k) {
        int had = sheets[k] == null ? 0 : 1;
        sheets[k] = null;
        return had;
    }

    private int put(int k, int i, int v) {
        need(isSheet(k), -1);
        need(sheets[k] != null, -11);
        need(i >= 0 && i < size(sheets[k]), -13);
        if (sheets[k] instanceof byte[] bytes) {
            bytes[i] = (byte) v;
        } else if (sheets[k] instanceof short[] shorts) {
            shorts[i] = (short) v;
        } else {
            ((int[]) sheets[k])[i] = v;
        }
        return 1;
    }

    private int copy(int k, int i, int other, int j, int n) {
        need(isSheet(k) && isSheet(other), -1);
        need(sheets[k] != null && sheets[other] != null, -11);
        need(laneOf(sheets[k]) == laneOf(sheets[other]), -12);
        try {
            System.arraycopy(sheets[k], i, sheets[other], j, n);
        } catch (IndexOutOfBoundsException beyond) {
            throw new Stop(-13);
        }
        return n;
    }

    private void leave(int... bodies) {
        for (int one : bodies) {
            trace = trace * 31 + one;
        }
    }

    private int tell(Person one) {
        if (one.letter == 'p') {
            leave(1);
            return one.whom;
        }
        if (one.letter == 'r') {
            leave(2, 1);
            return one.whom + 100;
        }
        leave(3, 2, 1, 1);
        return 2 * one.whom + 100;
    }

    private int greet(int p) {
        boolean own = world.people.get(p).letter == 'a';
        leave(own ? 5 : 4);
        return own ? 80 : p;
    }

    private int as(char letter, int kind) {
        need("p pr pra".split(" ")["pra".indexOf(letter)].indexOf("pra".charAt(kind)) >= 0, -12);
        return 1;
    }
}
