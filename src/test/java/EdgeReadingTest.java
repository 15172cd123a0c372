/** The sentences about who was where (promises 15 to 20) that name a boundary, each under its own words. */
public final class EdgeReadingTest {
    private static final int OUTSIDE = TowerTell.OUTSIDE, FULL = TowerTell.FULL, GREATEST = Integer.MAX_VALUE;
    private static final int ALL_WEIGHTS = 1022, ALL_KINDS = 7, ALL_KNEW = 31;
    private static final Checks c = new Checks();

    public static void main(String[] args) {
        eightReadings();
        readingsAgainBehindBack();
        floorsOfReadings();
        backFromNoneToAll();
        theLastAreTakenBack();
        withoutReadings();
        weightsOneByOne();
        noWeightBelowOneOrAboveNine();
        kindsOneByOne();
        knewOneByOne();
        allReadingsCount();
        byDaysOfNoPairs();
        byDaysOfTwentyPairs();
        firstWrongByAll();
        firstWrongBySome();
        toldNow();
        whoIsWhereNowByIt();
        inPlaceOfItAlone();
        guessesChangeNothing();
        oddsAtTheEnds();
        oddsOfAtLeast();
        oddsFromTheGround();
        c.end("EdgeReadingTest");
    }

    private static void eightReadings() {
        c.begin("READINGS, 8 at most, numbered by how many there are; FULL");
        TowerTell x = Checks.towerOf("u-3,p010,p010,p010,p010");
        for (int k = 0; k < 8; k++) {
            c.due("how many ahead of it", x.many(2), k);
            c.due("its number", x.reading(k % 4, k), k);
        }
        c.due("a ninth", x.reading(0, 0), FULL);
        c.due("eight are there", x.many(2), 8);
        c.due("a tenth", x.reading(3, 99), FULL);
        c.due("eight are there", x.back(0), 8);
    }

    private static void readingsAgainBehindBack() {
        c.begin("FULL, and numbered by how many there are, as some have been taken back");
        TowerTell x = Checks.towerOf("u-3,p010");
        for (int k = 0; k < 8; k++) {
            x.reading(0, 0);
        }
        c.due("one is taken back", x.back(1), 7);
        c.due("one more", x.reading(0, 0), 7);
        c.due("FULL again", x.reading(0, 0), FULL);
        c.due("all are taken back", x.back(8), 0);
        c.due("from 0 on", x.reading(0, 0), 0);
        c.due("and on", x.reading(0, 0), 1);
    }

    private static void floorsOfReadings() {
        c.begin("OUTSIDE: f (0 .. 99)");
        TowerTell x = Checks.towerOf("u-3,p010");
        c.due("-1", x.reading(0, -1), OUTSIDE);
        c.due("0", x.reading(0, 0), 0);
        c.due("99", x.reading(0, 99), 1);
        c.due("100", x.reading(0, 100), OUTSIDE);
        c.due("one that could not be so, and higher than one can come, is taken", x.reading(0, 98), 2);
        TowerTell high = Checks.towerOf("u-9-9-9-9-9-4,a634");
        for (int d = 0; d < 6; d++) {
            high.say(0, d);
        }
        high.sheet(1, 0, 0);
        high.reading(0, 98);
        c.due("the highest that can be so", high.weights(5, 1, 0, 0, 0), 1 << 4);
    }

    private static void backFromNoneToAll() {
        c.begin("The last k READINGS (0 .. as many as there are) are taken back: how many are left");
        TowerTell none = new TowerTell();
        c.due("0 of none, without a TOWER", none.back(0), 0);
        c.due("1 of none, without a TOWER", none.back(1), OUTSIDE);
        for (int there = 0; there <= 8; there++) {
            for (int k = -1; k <= there + 1; k++) {
                TowerTell x = Checks.towerOf("u-3,p010");
                for (int made = 0; made < there; made++) {
                    x.reading(0, 0);
                }
                boolean isThere = k >= 0 && k <= there;
                c.due(k + " of " + there, x.back(k), isThere ? there - k : OUTSIDE);
                c.due("how many are left", x.many(2), isThere ? there - k : there);
            }
        }
    }

    private static void theLastAreTakenBack() {
        c.begin("The last k READINGS");
        TowerTell x = Checks.towerOf("u-3,p014");
        Checks.row(x, 1, 0, 0, 0);
        for (int f = 1; f <= 3; f++) {
            x.reading(0, f);
        }
        c.due("all three can't be so", x.weights(0, 1, 0, 0, 1), 0);
        x.back(2);
        c.due("the first is left", x.weights(0, 1, 0, 0, 1), 1 << 1);
        x.back(1);
        c.due("none is left", x.weights(0, 1, 0, 0, 1), ALL_WEIGHTS);
        x.reading(0, 9);
        c.due("what has been taken back does not come again", x.weights(0, 1, 0, 0, 1), 1 << 9);
    }

    private static void withoutReadings() {
        c.begin("all READINGS are so, as there are none");
        TowerTell x = Checks.towerOf("u-3-4,p010,r024,a034,p000");
        Checks.row(x, 1, 0, 0, 0, 1, 1);
        for (int n = 0; n <= 2; n++) {
            c.due("WEIGHTS", x.weights(0, 1, 0, 0, n), ALL_WEIGHTS);
            c.due("WEIGHTS", x.weights(1, 1, 0, 0, n), ALL_WEIGHTS);
            for (int p = 0; p < 4; p++) {
                c.due("KINDS", x.kinds(p, 1, 0, 0, n), ALL_KINDS);
                c.due("KNEW", x.knew(p, 1, 0, 0, n), ALL_KNEW);
            }
        }
    }

    private static int weightsByFloor(String kind, int floor) {
        TowerTell x = Checks.towerOf("u-5-5," + kind + "634");
        Checks.row(x, 1, 0, 0, 1);
        x.reading(0, floor);
        return x.weights(1, 1, 0, 0, 1);
    }

    private static void weightsOneByOne() {
        c.begin("WEIGHTS of a DEED: 1 .. 9, as a set");
        for (int v = 1; v <= 9; v++) {
            c.due("of a PERSON", weightsByFloor("p", v), 1 << v);
            c.due("of a PROUD one", weightsByFloor("r", v - 1), 1 << v);
            c.due("of an ABJECT one", weightsByFloor("a", 2 * v), 1 << v);
        }
    }

    private static void noWeightBelowOneOrAboveNine() {
        c.begin("WEIGHTS of a DEED: 1 .. 9, no others");
        c.due("as if it were 0", weightsByFloor("p", 0), 0);
        c.due("as if it were 10", weightsByFloor("p", 10), 0);
        c.due("as if it were 10", weightsByFloor("r", 9), 0);
        c.due("as if it were 0", weightsByFloor("a", 0), 0);
        c.due("as if it were 10", weightsByFloor("a", 20), 0);
        c.due("between two", weightsByFloor("a", 3), 0);
        c.due("the highest READING", weightsByFloor("a", 99), 0);
    }

    private static void kindsOneByOne() {
        c.begin("KINDS of a PERSON: 0 .. 2, as a set");
        int[] due = new int[12];
        due[5] = 1;
        due[4] = 2;
        due[10] = 4;
        for (int floor = 0; floor < due.length; floor++) {
            TowerTell x = Checks.towerOf("u-5,r014,p004");
            Checks.row(x, 1, 0, 0, 0);
            x.reading(0, floor);
            c.due("on FLOOR " + floor, x.kinds(0, 1, 0, 0, 1), due[floor]);
            c.due("of another one", x.kinds(1, 1, 0, 0, 1), floor == 4 ? ALL_KINDS : 0);
        }
        TowerTell ground = Checks.towerOf("u-5,r014");
        ground.sheet(1, 0, 0);
        ground.reading(0, 0);
        c.due("all, on the ground", ground.kinds(0, 1, 0, 0, 0), ALL_KINDS);
    }

    /** 3 stays on the ground while the others lie there, one behind another: who is CAUGHT is whom 3 KNEW. */
    private static void knewOneByOne() {
        c.begin("KNEW of a PERSON: 0 .. 4, as a set");
        for (int caught = 0; caught <= 3; caught++) {
            TowerTell x = Checks.towerOf("u-5,p004,p004,p004,p004");
            Checks.row(x, 1, 0, 0, 0, 1, 0, 2, 0);
            for (int p = 0; p < 3; p++) {
                x.reading(p, p == caught ? 0 : 5);
            }
            c.due("KNEW", x.knew(3, 1, 0, 0, 3), caught == 3 ? 1 << 3 | 1 << 4 : 1 << caught);
        }
        TowerTell both = Checks.towerOf("u-5,p004,p004,p004,p004");
        Checks.row(both, 1, 0, 0, 0, 1, 0, 2, 0);
        both.reading(0, 0);
        both.reading(1, 0);
        c.due("one can't KNOW two", both.knew(3, 1, 0, 0, 3), 0);
    }

    private static void allReadingsCount() {
        c.begin("all READINGS are so: each of eight");
        for (int wrong = -1; wrong < 8; wrong++) {
            TowerTell x = Checks.towerOf("u-5,p014,p014,p014,p014");
            Checks.row(x, 1, 0, 0, 0);
            for (int k = 0; k < 8; k++) {
                int floor = k % 4 == 0 ? 5 : 0;
                x.reading(k % 4, k == wrong ? floor + 1 : floor);
            }
            c.due("WEIGHTS", x.weights(0, 1, 0, 0, 1), wrong < 0 ? 1 << 5 : 0);
            c.due("KINDS", x.kinds(0, 1, 0, 0, 1), wrong < 0 ? 1 : 0);
            c.due("KNEW", x.knew(0, 1, 0, 0, 1), wrong < 0 ? ALL_KNEW : 0);
        }
    }

    private static void byDaysOfNoPairs() {
        c.begin("by DAYS of 0 pairs");
        TowerTell x = Checks.towerOf("u-5,p014,p004");
        x.sheet(1, 2, 60);
        x.say(0, 0);
        x.reading(0, 5);
        c.due("WEIGHTS", x.weights(0, 1, 2, 60, 0), 1 << 5);
        c.due("KINDS", x.kinds(0, 1, 2, 60, 0), 1);
        c.due("KNEW", x.knew(0, 1, 2, 60, 0), ALL_KNEW);
    }

    private static void byDaysOfTwentyPairs() {
        c.begin("by DAYS of 20 pairs; OUTSIDE: n (0 .. 20)");
        TowerTell x = Checks.towerOf("u-9-9-9-9-9-9,p634,r634,a634,p634");
        x.sheet(1, 1, 42);
        for (int day = 0; day < 20; day++) {
            x.put(1, 2 * day, day / 5);
            x.put(1, 2 * day + 1, day % 5);
        }
        x.put(1, 40, 3);
        x.put(1, 41, 5);
        x.reading(3, 45);
        c.due("WEIGHTS by the last pair", x.weights(4, 1, 1, 0, 20), 1 << 9);
        c.due("WEIGHTS without it", x.weights(4, 1, 1, 0, 19), 0);
        c.due("KINDS", x.kinds(3, 1, 1, 0, 20), 1);
        c.due("KNEW", x.knew(3, 1, 1, 0, 20), ALL_KNEW);
        c.due("21", x.weights(4, 1, 1, 0, 21), OUTSIDE);
        c.due("21", x.kinds(3, 1, 1, 0, 21), OUTSIDE);
        c.due("21", x.knew(3, 1, 1, 0, 21), OUTSIDE);
        x.back(1);
        x.reading(3, 54);
        c.due("from 2 on, the last 20 pairs", x.kinds(3, 1, 1, 2, 20), 1);
    }

    private static void firstWrongByAll() {
        c.begin("by which there is no FIRST WRONG: there is one by all");
        TowerTell x = Checks.towerOf("u-5-5,p034,p004");
        Checks.row(x, 1, 0, 0, 0, 0, 0);
        c.due("WEIGHTS", x.weights(0, 1, 0, 0, 2), 0);
        c.due("WEIGHTS of another DEED", x.weights(1, 1, 0, 0, 2), 0);
        c.due("KINDS", x.kinds(0, 1, 0, 0, 2), 0);
        c.due("KNEW", x.knew(1, 1, 0, 0, 2), 0);
        c.due("no FAULT", x.fault(), 0);
        c.due("the first pair alone", x.weights(0, 1, 0, 0, 1), ALL_WEIGHTS);
    }

    /** 0 TELLS a DEED twice: that is wrong, unless 0 has been CAUGHT between, which 1 alone can do on FLOOR 4. */
    private static void firstWrongBySome() {
        c.begin("by which there is no FIRST WRONG: there is one by some");
        TowerTell x = Checks.towerOf("u-3-4,p014,p020");
        Checks.row(x, 1, 0, 0, 0, 1, 1, 0, 1, 0, 0);
        c.due("WEIGHTS", x.weights(0, 1, 0, 0, 4), 1 << 4);
        c.due("WEIGHTS of the other DEED", x.weights(1, 1, 0, 0, 4), 1 << 3);
        c.due("KINDS", x.kinds(0, 1, 0, 0, 4), 0);
        c.due("KINDS of the other one", x.kinds(1, 1, 0, 0, 4), 2);
        x.weigh(0, 4);
        c.due("KINDS by which all is so", x.kinds(0, 1, 0, 0, 4), 1);
        c.due("KNEW", x.knew(1, 1, 0, 0, 4), 1);
        c.due("KNEW of the liar, which does not matter", x.knew(0, 1, 0, 0, 4), ALL_KNEW);
    }

    private static void toldNow() {
        c.begin("from how all is now: what is TOLD now can't be TOLD");
        TowerTell x = Checks.towerOf("u-5-5,p034,p004");
        Checks.row(x, 1, 0, 0, 0);
        x.say(0, 0);
        c.due("WEIGHTS", x.weights(0, 1, 0, 0, 1), 0);
        c.due("KINDS", x.kinds(0, 1, 0, 0, 1), 0);
        c.due("KNEW", x.knew(0, 1, 0, 0, 1), 0);
        x.hush(0);
        c.due("WEIGHTS", x.weights(0, 1, 0, 0, 1), ALL_WEIGHTS);
    }

    private static void whoIsWhereNowByIt() {
        c.begin("(who is where now by it, too)");
        TowerTell x = Checks.towerOf("u-5-3,p014,p020");
        x.say(0, 0);
        x.say(1, 1);
        Checks.row(x, 1, 0, 0, 1);
        x.reading(0, 0);
        c.due("WEIGHTS: 0 is heard where 1 is now", x.weights(0, 1, 0, 0, 1), 1 << 3);
        c.due("WEIGHTS", x.weights(1, 1, 0, 0, 1), 1 << 5);
        x.weigh(1, 6);
        c.due("KINDS: 1 is where 0 is now", x.kinds(1, 1, 0, 0, 1), 2);
        x.weigh(1, 5);
        c.due("KNEW", x.knew(1, 1, 0, 0, 1), 1);
    }

    private static void inPlaceOfItAlone() {
        c.begin("in place of what it is alone");
        TowerTell x = Checks.towerOf("u-5-3,p034,r034");
        Checks.row(x, 1, 0, 0, 0, 0, 1, 1, 0);
        x.reading(0, 8);
        x.reading(1, 4);
        c.due("WEIGHTS", x.weights(0, 1, 0, 0, 3), 1 << 5);
        c.due("WEIGHTS", x.weights(1, 1, 0, 0, 3), 1 << 3);
        x.weigh(1, 4);
        c.due("the other WEIGHT is as it is", x.weights(0, 1, 0, 0, 3), 0);
        c.due("this one is in place of it", x.weights(1, 1, 0, 0, 3), 1 << 3);
        c.due("KINDS by these WEIGHTS", x.kinds(0, 1, 0, 0, 3), 0);
        x.weigh(1, 3);
        c.due("KINDS", x.kinds(0, 1, 0, 0, 3), 1);
        c.due("KINDS", x.kinds(1, 1, 0, 0, 3), 2);
    }

    private static void guessesChangeNothing() {
        c.begin("All by DAYS that are told (nothing is changed)");
        TowerTell x = Checks.towerOf("u-5-3,p014,r020");
        Checks.row(x, 1, 0, 0, 1);
        x.weights(0, 1, 0, 0, 1);
        x.kinds(1, 1, 0, 0, 1);
        x.knew(1, 1, 0, 0, 1);
        c.due("WEIGHT", x.weight(0), 5);
        c.due("kind", x.ofPerson(1, 0), 1);
        c.due("KNOWS", x.ofPerson(1, 2), 0);
        c.due("TOLD", x.ofPerson(0, 3), 0);
        c.due("CAUGHT, as ever", x.days(1, 0, 0, 1, 0), 1);
    }

    private static void share(TowerTell x, int p, int f, int upper, int lower) {
        c.due("upper number of " + p + " for " + f, x.odds(p, f, 0), upper);
        c.due("lower number of " + p + " for " + f, x.odds(p, f, 1), lower);
    }

    private static void oddsAtTheEnds() {
        c.begin("ODDS of a PERSON and a FLOOR: the ground, the roof, and beyond");
        TowerTell x = Checks.towerOf("u-9-9-9-9-9-9,p634,a634,r634,p004");
        int[] roof = {54, 108, 48};
        for (int p = 0; p < 3; p++) {
            share(x, p, 0, 1, 1);
            share(x, p, 1, 63, 64);
            share(x, p, roof[p], 1, 64);
            share(x, p, roof[p] + 1, 0, 1);
            share(x, p, GREATEST, 0, 1);
        }
        share(x, 3, 0, 1, 1);
        share(x, 3, 1, 0, 1);
    }

    private static void oddsOfAtLeast() {
        c.begin("the share by which one is on that FLOOR at least");
        TowerTell x = Checks.towerOf("u-2-5,p034,r014,p024");
        int[][] due = {{1, 1}, {3, 4}, {3, 4}, {1, 2}, {1, 2}, {1, 2}, {1, 4}, {1, 4}, {0, 1}};
        for (int f = 0; f < due.length; f++) {
            share(x, 0, f, due[f][0], due[f][1]);
        }
        share(x, 1, 1, 1, 2);
        share(x, 1, 2, 0, 1);
        share(x, 2, 5, 1, 2);
    }

    private static void oddsFromTheGround() {
        c.begin("all such sets alike (from the ground)");
        TowerTell x = Checks.towerOf("u-2-5,p034,p000");
        x.say(0, 1);
        share(x, 0, 0, 1, 1);
        share(x, 0, 5, 1, 2);
        share(x, 0, 7, 1, 4);
        x.say(1, 1);
        share(x, 1, 5, 0, 1);
    }
}
