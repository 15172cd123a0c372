/** The sentences about tellings and FLOORS (promises 7 to 14) that name a boundary, each under its own words. */
public final class EdgeTellingTest {
    private static final int NONE = TowerTell.NONE, STATE = TowerTell.STATE, GREATEST = Integer.MAX_VALUE;
    private static final int[] ALL_BUT_WRONG = {0, 2, 10, 11, 12, 13, 20, 21, 22, 23};
    private static final Checks c = new Checks();

    public static void main(String[] args) {
        floorsOfAllDeeds();
        aTruthBeforeWhoKnowsOne();
        aLieOnTheSameFloor();
        oneOfSeveralWhoKnowOne();
        oneselfIsNotAnother();
        theFloorAheadOfIt();
        putDownFromTheRoof();
        putDownFromTheGround();
        aLieOfNoStorey();
        toldAlready();
        hushFromRoofAndGround();
        landings();
        daysOfNoPairs();
        daysOfTwentyPairs();
        caughtTwentyTimes();
        firstWrongFromFirstToLast();
        firstWrongIsTheFirst();
        whatIsNotWrong();
        everyQuestionOfDays();
        questionsOfOneWhoIsNotThere();
        highestFloors();
        daysChangeNothing();
        wayToTheGround();
        wayToTheRoofAndBeyond();
        fewestGoAheadOfLeast();
        leastOfSeveral();
        keptAtTheEnds();
        keptOfSeveral();
        roofs();
        safeOfAllAndNone();
        c.end("EdgeTellingTest");
    }

    // ---- 2 tellings

    private static void floorsOfAllDeeds() {
        c.begin("One's FLOOR: STOREYS of all that one has TOLD, together");
        TowerTell x = Checks.towerOf("u-9-9-9-9-9-9,p634,r634,a634");
        int[] storeys = {9, 8, 18};
        for (int p = 0; p < 3; p++) {
            c.due("nothing", x.ofPerson(p, 4), 0);
            for (int d = 0; d < 6; d++) {
                c.due("FLOOR then", x.say(p, d), storeys[p] * (d + 1));
            }
            c.due("all", x.ofPerson(p, 4), storeys[p] * 6);
            c.due("all are TOLD", x.ofPerson(p, 3), 63);
        }
    }

    private static void aTruthBeforeWhoKnowsOne() {
        c.begin("if one has DONE it, one rises");
        TowerTell x = Checks.towerOf("u-3,p010,p000,p000");
        c.due("on the same FLOOR as two who KNOW one", x.say(0, 0), 3);
        c.due("TOLD", x.ofPerson(0, 3), 1);
    }

    private static void aLieOnTheSameFloor() {
        c.begin("if another one who KNOWS one is on the same FLOOR, one is CAUGHT; else one rises, too");
        for (int above = -1; above <= 1; above++) {
            TowerTell x = Checks.towerOf("u-5-2,p014,p020");
            x.say(0, 0);
            x.say(1, 1);
            x.weigh(1, 5 + above);
            c.due("who KNOWS one is so much above", x.ofPerson(1, 4) - x.ofPerson(0, 4), above);
            c.due("SAFE", x.safe(0), above == 0 ? 0 : 2);
            c.due("a LIE", x.say(0, 1), above == 0 ? 0 : 10 + above);
            c.due("TOLD", x.ofPerson(0, 3), above == 0 ? 0 : 3);
        }
    }

    private static void oneOfSeveralWhoKnowOne() {
        c.begin("another one who KNOWS one, of several");
        for (int liar = 0; liar < 4; liar++) {
            for (int there = 0; there < 4; there++) {
                TowerTell x = Checks.towerOf("u-5-2,p02L,p02L,p02L,p02L".replace("L", "" + liar));
                for (int p = 0; p < 4; p++) {
                    if (p != there && p != liar) {
                        x.say(p, 1);
                    }
                }
                c.due(there + " alone is on the FLOOR of " + liar, x.say(liar, 0), there == liar ? 5 : 0);
            }
        }
    }

    private static void oneselfIsNotAnother() {
        c.begin("another one");
        for (int p = 0; p < 4; p++) {
            TowerTell x = Checks.towerOf("u-5,p000,p001,p002,p003");
            c.due("all KNOW but oneself", x.safe(p), 1);
            c.due("a LIE", x.say(p, 0), 5);
        }
    }

    private static void theFloorAheadOfIt() {
        c.begin("is on the same FLOOR (ahead of it)");
        TowerTell x = Checks.towerOf("u-5,p004,p010");
        x.say(1, 0);
        c.due("one comes to the FLOOR of who KNOWS one by it", x.say(0, 0), 5);
        TowerTell y = Checks.towerOf("u-5,p004,p010");
        c.due("one would leave the FLOOR of who KNOWS one by it", y.say(0, 0), 0);
    }

    private static void putDownFromTheRoof() {
        c.begin("one is CAUGHT: on FLOOR 0, as if one had TOLD nothing");
        TowerTell x = Checks.towerOf("u-9-9-9-9-9-9,a314,a310,p314");
        for (int d = 0; d < 5; d++) {
            x.say(0, d);
            x.say(1, d);
            x.say(2, d);
        }
        c.due("a LIE on FLOOR 90", x.say(0, 5), 0);
        c.due("TOLD", x.ofPerson(0, 3), 0);
        c.due("FLOOR", x.ofPerson(0, 4), 0);
        c.due("who KNOWS one stays", x.ofPerson(1, 4), 90);
        c.due("another one stays", x.ofPerson(2, 3), 31);
        x.hush(1);
        c.due("the LIE can be TOLD again, where nobody else is", x.say(0, 0) + x.say(0, 5), 18 + 36);
    }

    private static void putDownFromTheGround() {
        c.begin("one is CAUGHT: on FLOOR 0, from FLOOR 0");
        TowerTell x = Checks.towerOf("u-9,p004,p000");
        for (int turn = 0; turn < 3; turn++) {
            c.due("a LIE, again and again", x.say(0, 0), 0);
            c.due("TOLD", x.ofPerson(0, 3), 0);
        }
    }

    private static void aLieOfNoStorey() {
        c.begin("a PROUD one 1 less, of WEIGHT 1");
        TowerTell x = Checks.towerOf("u-1-1-3,r004,p040");
        c.due("a LIE that would be none, if it were heard", x.say(0, 0), 0);
        c.due("it is not TOLD", x.ofPerson(0, 3), 0);
        x.say(1, 2);
        c.due("a LIE of no storey", x.say(0, 0), 0);
        c.due("it is TOLD", x.ofPerson(0, 3), 1);
        c.due("and can't be TOLD again", x.say(0, 0), STATE);
        x.hush(1);
        c.due("CAUGHT on FLOOR 0", x.say(0, 1), 0);
        c.due("what was TOLD for no storey is gone, too", x.ofPerson(0, 3), 0);
    }

    private static void toldAlready() {
        c.begin("STATE: it is TOLD already");
        TowerTell x = Checks.towerOf("u-3-4,p014,p020");
        x.say(1, 1);
        c.due("a TRUTH", x.say(0, 0), 3);
        c.due("a TRUTH again", x.say(0, 0), STATE);
        c.due("a LIE", x.say(0, 1), 7);
        c.due("a LIE again", x.say(0, 1), STATE);
        c.due("by another one", x.say(1, 0), 7);
        x.hush(0);
        c.due("behind hush() it is not TOLD", x.say(0, 0), 3);
        x.say(0, 1);
        c.due("a LIE again, before who KNOWS one", x.say(0, 1), STATE);
        c.due("not put down for it", x.ofPerson(0, 4), 7);
    }

    private static void hushFromRoofAndGround() {
        c.begin("A PERSON has TOLD nothing: on which FLOOR one was");
        TowerTell x = Checks.towerOf("u-9-9-9-9-9-9,a634,a634,r634");
        c.due("from the ground", x.hush(0), 0);
        for (int d = 0; d < 6; d++) {
            x.say(0, d);
            x.say(1, d);
        }
        c.due("from the roof", x.hush(0), 108);
        c.due("FLOOR", x.ofPerson(0, 4), 0);
        c.due("TOLD", x.ofPerson(0, 3), 0);
        c.due("another one stays", x.ofPerson(1, 4), 108);
        c.due("again", x.hush(0), 0);
        x.weigh(0, 1);
        x.say(2, 0);
        c.due("TOLD for no storey", x.hush(2), 0);
        c.due("TOLD", x.ofPerson(2, 3), 0);
    }

    private static void landings() {
        c.begin("PEOPLE who are on a FLOOR, as a set");
        TowerTell x = Checks.towerOf("u-9-9-9-9-9-9,a634,a634,a634,a634");
        c.due("all, on FLOOR 0", x.landing(0), 15);
        c.due("nobody", x.landing(1), 0);
        for (int d = 0; d < 6; d++) {
            x.say(3, d);
        }
        c.due("one below the roof", x.landing(107), 0);
        c.due("the highest FLOOR of all", x.landing(108), 8);
        c.due("one above the roof", x.landing(109), 0);
        c.due("far above", x.landing(GREATEST), 0);
        c.due("the others", x.landing(0), 7);
    }

    private static void daysOfNoPairs() {
        c.begin("DAYS of n pairs (0 .. 20): none");
        TowerTell x = Checks.towerOf("u-9-1,p034,p004");
        x.say(0, 0);
        x.sheet(1, 0, 0);
        int[] due = {0, 9, 9, 0, NONE, NONE, 1, 0, NONE, NONE};
        for (int k = 0; k < due.length; k++) {
            c.due("what " + ALL_BUT_WRONG[k], x.days(1, 0, 0, 0, ALL_BUT_WRONG[k]), due[k]);
        }
        c.due("no FIRST WRONG", x.days(1, 0, 0, 0, 1), NONE);
    }

    private static int[] pairsOfAllButDeed5() {
        int[] pairs = new int[40];
        for (int day = 0; day < 20; day++) {
            pairs[2 * day] = day / 5;
            pairs[2 * day + 1] = day % 5;
        }
        return pairs;
    }

    private static void daysOfTwentyPairs() {
        c.begin("DAYS of n pairs (0 .. 20): twenty");
        TowerTell x = Checks.towerOf("u-9-9-9-9-9-9,p634,r634,a634,p634");
        Checks.row(x, 1, 2, pairsOfAllButDeed5());
        int[] due = {0, 90, 45, 40, 90, 45, 31, 31, 31, 31};
        for (int k = 0; k < due.length; k++) {
            c.due("what " + ALL_BUT_WRONG[k], x.days(1, 2, 0, 20, ALL_BUT_WRONG[k]), due[k]);
        }
        c.due("no FIRST WRONG", x.days(1, 2, 0, 20, 1), NONE);
        c.due("21", x.days(1, 2, 0, 21, 1), TowerTell.OUTSIDE);
        c.due("the last one is TOLD", x.days(1, 2, 38, 1, 23), 16);
        int[] behind = new int[60];
        System.arraycopy(pairsOfAllButDeed5(), 0, behind, 20, 40);
        Checks.row(x, 1, 2, behind);
        c.due("at the end of the longest row", x.days(1, 2, 20, 20, 13), 45);
        c.due("one cell short", x.days(1, 2, 21, 20, 13), -13);
    }

    private static void caughtTwentyTimes() {
        c.begin("how often one is CAUGHT (what 0)");
        TowerTell x = Checks.towerOf("u-9-3,p024,p000");
        Checks.row(x, 1, 0, new int[40]);
        for (int n = 0; n <= 20; n++) {
            c.due("so often", x.days(1, 0, 0, n, 0), n);
        }
        x.put(1, 1, 1);
        c.due("not by a TRUTH, nor behind it", x.days(1, 0, 0, 2, 0), 0);
        c.due("nobody is CAUGHT by it", x.ofPerson(0, 3), 0);
    }

    private static void firstWrongFromFirstToLast() {
        c.begin("of those with a FIRST WRONG: -100 less that (but what 1)");
        TowerTell x = Checks.towerOf("u-9-9-9-9-9-9,p634,r634,a634,p634");
        int[] pairs = pairsOfAllButDeed5();
        x.say(3, 5);
        for (int wrong : new int[] {0, 1, 18, 19}) {
            int[] spoilt = pairs.clone();
            spoilt[2 * wrong] = 3;
            spoilt[2 * wrong + 1] = 5;
            Checks.row(x, 1, 0, spoilt);
            c.due("FIRST WRONG", x.days(1, 0, 0, 20, 1), wrong);
            for (int what : ALL_BUT_WRONG) {
                c.due("what " + what, x.days(1, 0, 0, 20, what), -100 - wrong);
            }
            c.due("the DAYS ahead of it", x.days(1, 0, 0, wrong, 1), NONE);
        }
    }

    private static void firstWrongIsTheFirst() {
        c.begin("FIRST WRONG: the first by which one would TELL what one has TOLD");
        TowerTell x = Checks.towerOf("u-9-3,p034,p034");
        Checks.row(x, 1, 0, 0, 0, 1, 1, 0, 0, 1, 1, 1, 1);
        c.due("of three", x.days(1, 0, 0, 5, 1), 2);
        c.due("of two", x.days(1, 0, 2, 4, 1), 2);
        x.say(1, 1);
        c.due("TOLD now already", x.days(1, 0, 0, 5, 1), 1);
        x.say(0, 0);
        c.due("TOLD now already", x.days(1, 0, 0, 5, 1), 0);
        c.due("a LIE that is TOLD is wrong, not heard", x.days(1, 0, 0, 1, 0), -100);
    }

    private static void whatIsNotWrong() {
        c.begin("what one has TOLD (and was not put down for)");
        TowerTell x = Checks.towerOf("u-9-3,p024,p010");
        Checks.row(x, 1, 0, 0, 1, 1, 0, 0, 0, 0, 1);
        c.due("0 lies, 1 is elsewhere: TOLD again", x.days(1, 0, 0, 4, 1), 3);
        x.weigh(0, 3);
        c.due("0 lies before 1: not TOLD any more", x.days(1, 0, 0, 4, 1), NONE);
        c.due("CAUGHT", x.days(1, 0, 0, 4, 0), 1);
        c.due("FLOOR", x.days(1, 0, 0, 4, 10), 3);
        c.due("TOLD", x.days(1, 0, 0, 4, 20), 2);
    }

    private static void everyQuestionOfDays() {
        c.begin("what (0 .. 2, 10 .. 13, 20 .. 23)");
        TowerTell x = Checks.towerOf("u-9,p014,p014,p014,p014");
        x.sheet(1, 0, 0);
        for (int what = -3; what <= 30; what++) {
            boolean isAsked = what >= 0 && what <= 2 || what >= 10 && what <= 13 || what >= 20 && what <= 23;
            int due = !isAsked ? TowerTell.OUTSIDE : what == 1 ? NONE : 0;
            c.due("what " + what, x.days(1, 0, 0, 0, what), due);
        }
    }

    private static void questionsOfOneWhoIsNotThere() {
        c.begin("NONE: there is no such PERSON");
        for (int people = 1; people <= 4; people++) {
            TowerTell x = Checks.towerOf("u-9" + ",p014".repeat(people));
            Checks.row(x, 1, 0, people - 1, 0);
            for (int p = 0; p < 4; p++) {
                boolean isLast = p == people - 1;
                c.due("FLOOR of " + p, x.days(1, 0, 0, 1, 10 + p), p >= people ? NONE : isLast ? 9 : 0);
                c.due("TOLD by " + p, x.days(1, 0, 0, 1, 20 + p), p >= people ? NONE : isLast ? 1 : 0);
            }
        }
    }

    private static void highestFloors() {
        c.begin("the highest FLOOR on which one is then (2)");
        TowerTell x = Checks.towerOf("u-9-1,r034,p010,r034");
        Checks.row(x, 1, 0, 0, 1, 1, 0, 0, 0);
        c.due("nobody is up", x.days(1, 0, 0, 1, 2), 0);
        c.due("the one in the middle", x.days(1, 0, 0, 2, 2), 9);
        c.due("the higher one", x.days(1, 0, 0, 3, 2), 9);
        x.say(0, 0);
        c.due("who is up now", x.days(1, 0, 0, 1, 2), 8);
        TowerTell y = Checks.towerOf("u-9-9-9-9-9-9,p000,p004,a630");
        Checks.row(y, 1, 0, 2, 0, 2, 1, 2, 2, 2, 3, 2, 4, 2, 5);
        c.due("the last one, as high as one can come", y.days(1, 0, 0, 6, 2), 108);
    }

    private static void daysChangeNothing() {
        c.begin("DAYS told: from how all is now (nothing is changed)");
        TowerTell x = Checks.towerOf("u-9-3,p014,p010,p004");
        x.say(0, 0);
        x.say(1, 0);
        Checks.row(x, 1, 0, 0, 1, 2, 0);
        c.due("one is CAUGHT by it", x.days(1, 0, 0, 1, 0), 1);
        c.due("and would be on the ground", x.days(1, 0, 0, 1, 10), 0);
        c.due("another one would rise", x.days(1, 0, 0, 2, 12), 9);
        c.due("0 stays", x.ofPerson(0, 4), 9);
        c.due("2 stays", x.ofPerson(2, 3), 0);
        c.due("the same again", x.days(1, 0, 0, 1, 0), 1);
    }

    // ---- 3 floors

    private static void wayToTheGround() {
        c.begin("WAY: the fewest TRUTHS by which, TOLD alone, one is just there: to FLOOR 0");
        TowerTell x = Checks.towerOf("u-1-5,p034,r034,a004");
        for (int p = 0; p < 3; p++) {
            c.due("none", x.way(p, 0), 0);
        }
        x.say(0, 0);
        x.say(0, 1);
        c.due("none, whatever is TOLD", x.way(0, 0), 0);
        c.due("a TRUTH of no storey is one too many", x.way(1, 4), 2);
    }

    private static void wayToTheRoofAndBeyond() {
        c.begin("WAY: NONE: there is none");
        TowerTell x = Checks.towerOf("u-9-9-9-9-9-9,a634,p004");
        c.due("the roof", x.way(0, 108), 63);
        c.due("one below it", x.way(0, 107), NONE);
        c.due("one above it", x.way(0, 109), NONE);
        c.due("far above", x.way(0, GREATEST), NONE);
        c.due("without TRUTHS", x.way(1, 1), NONE);
        c.due("not by LIES", x.way(1, 9), NONE);
        x.say(1, 0);
        c.due("not by LIES that are TOLD", x.way(1, 9), NONE);
    }

    private static void fewestGoAheadOfLeast() {
        c.begin("WAY: the fewest TRUTHS");
        TowerTell x = Checks.towerOf("u-1-1-1-1-1-5,p634");
        c.due("one, though five are a lesser set", x.way(0, 5), 32);
        TowerTell y = Checks.towerOf("u-1-2-3-3,p154");
        c.due("two, though three are a lesser set", y.way(0, 6), 12);
    }

    private static void leastOfSeveral() {
        c.begin("WAY: of several the least");
        TowerTell x = Checks.towerOf("u-2-2-2-2-2-2,p634,p624,p404");
        int[] due = {0, 1, 3, 7, 15, 31, 63};
        for (int k = 0; k <= 6; k++) {
            c.due("of " + k, x.way(0, 2 * k), due[k]);
        }
        c.due("of TRUTHS alone", x.way(1, 2), 2);
        c.due("of TRUTHS alone", x.way(1, 4), 6);
        c.due("of TRUTHS alone", x.way(2, 2), 8);
    }

    private static void keptAtTheEnds() {
        c.begin("KEPT: TRUTHS that are in all sets of TRUTHS by which one is just there; NONE: there is none such set");
        TowerTell x = Checks.towerOf("u-9-9-9-9-9-9,a634,p004,r634");
        c.due("the ground: the empty set alone", x.kept(0, 0), 0);
        c.due("the ground, without TRUTHS", x.kept(1, 0), 0);
        c.due("the roof", x.kept(0, 108), 63);
        c.due("one below it", x.kept(0, 107), NONE);
        c.due("one above it", x.kept(0, 109), NONE);
        c.due("far above", x.kept(0, GREATEST), NONE);
        c.due("not by LIES", x.kept(1, 9), NONE);
        x.weigh(0, 1);
        c.due("a TRUTH of no storey is not kept", x.kept(2, 40), 62);
        c.due("nor on the ground", x.kept(2, 0), 0);
    }

    private static void keptOfSeveral() {
        c.begin("KEPT: in all sets");
        TowerTell x = Checks.towerOf("u-5-2-2,p074,p034");
        c.due("one of two is kept in none", x.kept(0, 2), 0);
        c.due("the same is kept in both", x.kept(0, 7), 1);
        c.due("all of the only one", x.kept(0, 9), 7);
        c.due("of TRUTHS alone", x.kept(1, 7), 3);
    }

    private static void roofs() {
        c.begin("ROOF: the highest FLOOR by TRUTHS");
        TowerTell x = Checks.towerOf("u-9-9-9-9-9-9,p634,r634,a634,a004");
        int[] due = {54, 48, 108, 0};
        for (int p = 0; p < 4; p++) {
            c.due("ROOF", x.roof(p), due[p]);
        }
        x.say(3, 0);
        c.due("a LIE does not count", x.roof(3), 0);
        x.say(0, 0);
        c.due("what is TOLD does not count", x.roof(0), 54);
        TowerTell y = Checks.towerOf("u-1-1,r034");
        c.due("TRUTHS of no storey", y.roof(0), 0);
    }

    private static void safeOfAllAndNone() {
        c.begin("SAFE: DEEDS that one has not TOLD by which one would not be CAUGHT now");
        TowerTell x = Checks.towerOf("u-9-9-9-9-9-9,p004,p000,p634,p004");
        c.due("none", x.safe(0), 0);
        c.due("all", x.safe(3), 63);
        for (int d = 0; d < 6; d++) {
            c.due("what is not TOLD", x.safe(2), 63 & ~((1 << d) - 1));
            x.say(2, d);
        }
        c.due("all are TOLD", x.safe(2), 0);
        x.say(1, 0);
        c.due("now who KNOWS one is elsewhere", x.safe(0), 63);
        x.say(0, 1);
        c.due("now on the same FLOOR again", x.safe(0), 0);
    }
}
