import java.util.Arrays;

/** States in which calls are refused, and all of a state that can be seen from outside. */
enum Scene {
    /** A new object. */
    BARE(0, 0),
    /** Rows on SHEETS 0, 1 and 2, but no TOWER. */
    ROWS(0, 0),
    /** The smallest TOWER: fewer PEOPLE and DEEDS than there may be. */
    FEW(1, 1),
    /** All that an object can have; SHEET 3 has nothing, here as everywhere. */
    TOWER(4, 6),
    /** As TOWER, with as many READINGS as there may be. */
    FULL(4, 6);

    static final int LEAST = Integer.MIN_VALUE, GREATEST = Integer.MAX_VALUE;
    static final String TEXT = "u-3-1-4-2-9-5,p052,r060,a100,p151";
    /** Bytes, shorts and ints; SHEET 1 has four pairs by which TOWER's READINGS are so. */
    static final int TEXT_SHEET = 0, PAIRS_SHEET = 1, INTS_SHEET = 2, NO_ROW = 3;
    private static final int[] PAIRS = {0, 2, 3, 1, 1, 3, 2, 1};
    private static final int[] INTS = {GREATEST, LEAST, 7, 300, -5};

    final int people;
    final int deeds;
    private long[] untouched;

    Scene(int people, int deeds) {
        this.people = people;
        this.deeds = deeds;
    }

    TowerTell make() {
        TowerTell x = new TowerTell();
        if (this == BARE) {
            return x;
        }
        Checks.row(x, TEXT_SHEET, 0, Checks.codes(this == FEW ? "u-1,p000" : TEXT));
        Checks.row(x, PAIRS_SHEET, 1, this == FEW ? new int[8] : PAIRS);
        Checks.row(x, INTS_SHEET, 2, INTS);
        if (this == ROWS) {
            return x;
        }
        x.tower(TEXT_SHEET, 0, 0, this == FEW ? 8 : TEXT.length());
        if (this == TOWER || this == FULL) {
            tell(x);
        }
        return x;
    }

    private void tell(TowerTell x) {
        x.say(0, 0);
        x.say(2, 3);
        x.say(3, 0);
        x.say(1, 1);
        x.tell(2);
        x.greet(1);
        int[] person = {0, 2, 1, 3};
        int[] floor = {7, 6, 1, 4};
        for (int k = 0; k < (this == FULL ? 8 : 2); k++) {
            x.reading(person[k % 4], floor[k % 4]);
        }
    }

    /** Numbers that are no PERSON's: the nearest ones, and the farthest. */
    int[] noPeople() {
        return new int[] {-1, people, LEAST, GREATEST};
    }

    int[] noDeeds() {
        return new int[] {-1, deeds, LEAST, GREATEST};
    }

    boolean isLeftBy(TowerTell x) {
        if (untouched == null) {
            untouched = look(make());
        }
        return Arrays.equals(look(x), untouched);
    }

    /** Some 240 answers, so that making, one call and this stay within an object's 512 calls; it changes TRACE. */
    private static long[] look(TowerTell x) {
        Seen seen = new Seen();
        seen.add(x.trace());
        for (int what = 0; what <= 2; what++) {
            seen.add(x.many(what));
        }
        // Ahead of all that is refused where there is no TOWER: a look must not hide what such a call would spoil.
        for (int k = 0; k <= 3; k++) {
            lookAtSheet(x, k, seen);
        }
        for (int p = 0; p < 4; p++) {
            lookAtPerson(x, p, seen);
        }
        for (int d = 0; d < 6; d++) {
            seen.add(x.weight(d));
            seen.add(x.weights(d, PAIRS_SHEET, 1, 0, 4));
        }
        for (int f = 0; f <= 9; f++) {
            seen.add(x.landing(f));
        }
        for (int what : new int[] {0, 1, 2, 10, 11, 12, 13, 20, 21, 22, 23}) {
            seen.add(x.days(PAIRS_SHEET, 1, 0, 4, what));
        }
        return seen.all();
    }

    private static void lookAtPerson(TowerTell x, int p, Seen seen) {
        for (int what = 0; what <= 4; what++) {
            seen.add(x.ofPerson(p, what));
        }
        for (int d = 0; d < 6; d++) {
            seen.add(x.storeys(p, d));
        }
        for (int f = 0; f <= 6; f += 2) {
            seen.add(x.way(p, f));
            seen.add(x.kept(p, f));
            seen.add(x.odds(p, f, 0));
        }
        seen.add(x.odds(p, 1, 1));
        seen.add(x.roof(p));
        seen.add(x.safe(p));
        seen.add(x.kinds(p, PAIRS_SHEET, 1, 0, 4));
        seen.add(x.knew(p, PAIRS_SHEET, 1, 0, 4));
        seen.add(x.tell(p));
        seen.add(x.greet(p));
    }

    /** Its LANE, its length and its cells. */
    private static void lookAtSheet(TowerTell x, int k, Seen seen) {
        for (int lane = 0; lane <= 2; lane++) {
            for (int i = 0; i <= 60; i++) {
                seen.add(x.cell(k, i, lane));
                if (seen.last() == TowerTell.LOST) {
                    seen.add(x.fault());
                    break;
                }
            }
        }
    }

    /** Answers, in the order in which they were given. */
    private static final class Seen {
        private final long[] answers = new long[1000];
        private int count;

        void add(long answer) {
            answers[count] = answer;
            count++;
        }

        long last() {
            return answers[count - 1];
        }

        long[] all() {
            return Arrays.copyOf(answers, count);
        }
    }
}
