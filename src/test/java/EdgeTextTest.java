/** The sentences about a TOWER and its TEXT (promises 1 to 6) that name a boundary, each under its own words. */
public final class EdgeTextTest {
    private static final Checks c = new Checks();

    public static void main(String[] args) {
        aNewObject();
        oneToSixDeeds();
        theSeventhDeed();
        weightsOneToNine();
        oneToFourPeople();
        theFifthPerson();
        deedsDone();
        deedsDoneThatAreNotThere();
        firstOrSecondDigit();
        knowsZeroToFour();
        knowsOneWhoIsNotThere();
        everyCodeAtEveryPlace();
        theFirstOfSeveral();
        endsTooSoon();
        codesAreNotCut();
        kindsByTheirLetters();
        makesAllAnew();
        oneTextBehindAnother();
        storeysOfLeastAndGreatest();
        ofPersonFromEndToEnd();
        weighFromOneToNine();
        weighTellsFloorsAnew();
        c.end("EdgeTextTest");
    }

    private static void aNewObject() {
        c.begin("No TOWER (no DEEDS, PEOPLE), SHEETS have nothing");
        TowerTell x = new TowerTell();
        c.due("no PERSON", x.ofPerson(0, 0), TowerTell.UNKNOWN);
        c.due("no DEED", x.weight(0), TowerTell.UNKNOWN);
        c.due("no TOWER", x.landing(0), TowerTell.STATE);
        c.due("no READINGS", x.back(1), TowerTell.OUTSIDE);
        for (int k = 0; k <= 3; k++) {
            c.due("nothing", x.put(k, 0, 0), -11);
            c.due("nothing", x.lose(k), 0);
        }
        TowerTell other = Checks.towerOf("u-1,p000");
        c.due("another object's TOWER is its own", x.many(0) + 10 * other.many(0), 10);
    }

    private static void taken(String text, int people, int deeds) {
        TowerTell x = new TowerTell();
        c.due(text, Checks.build(x, text), people);
        c.due("PEOPLE of " + text, x.many(0), people);
        c.due("DEEDS of " + text, x.many(1), deeds);
    }

    private static void firstFault(String text, int place) {
        TowerTell x = new TowerTell();
        c.due(text, Checks.build(x, text), -100 - place);
        c.due("fault() behind " + text, x.fault(), 0);
        c.due("PEOPLE by " + text, x.many(0), 0);
        c.due("DEEDS by " + text, x.many(1), 0);
    }

    private static void oneToSixDeeds() {
        c.begin("u, then 1 to 6 DEEDS");
        firstFault("u,p000", 1);
        for (int deeds = 1; deeds <= 6; deeds++) {
            taken("u" + "-9".repeat(deeds) + ",p000", 1, deeds);
        }
    }

    private static void theSeventhDeed() {
        c.begin("the - of a seventh DEED");
        firstFault("u-1-1-1-1-1-1-1,p000", 13);
        firstFault("u-1-1-1-1-1-1-", 13);
        firstFault("u-1-1-1-1-1-1-0", 13);
        firstFault("u-1-1-1-1-1-1", 13);
        firstFault("u-1-1-1-1-1-", 12);
        firstFault("u-1-1-1-1-1-0", 12);
    }

    private static void weightsOneToNine() {
        c.begin("- and a digit 1 .. 9 (WEIGHT)");
        firstFault("u-0,p000", 2);
        firstFault("u-:,p000", 2);
        firstFault("u-10,p000", 3);
        for (int v = 1; v <= 9; v++) {
            TowerTell x = Checks.towerOf("u-5-" + v + ",p000");
            c.due("the last WEIGHT", x.weight(1), v);
            c.due("the first WEIGHT", x.weight(0), 5);
        }
    }

    private static void oneToFourPeople() {
        c.begin("then 1 to 4 PEOPLE");
        firstFault("u-1", 3);
        for (int people = 1; people <= 4; people++) {
            taken("u-1" + ",p000".repeat(people), people, 1);
        }
    }

    private static void theFifthPerson() {
        c.begin("the , of a fifth PERSON");
        String four = "u-1,p000,r000,a000,p000";
        firstFault(four + ",p000", 23);
        firstFault(four + ",", 23);
        firstFault(four + ",x", 23);
        firstFault(four + "-", 23);
        firstFault(four.substring(0, 18) + ",", 19);
        firstFault(four.substring(0, 18) + "x", 18);
        firstFault("u-1,p000-1", 8);
    }

    private static String twoDigits(int number) {
        return number < 10 ? "0" + number : "" + number;
    }

    private static void deedsDone() {
        c.begin("two digits 00 .. 63 (DEEDS that one has DONE, as a set)");
        for (int done = 0; done <= 63; done++) {
            TowerTell x = Checks.towerOf("u-1-1-1-1-1-1,a" + twoDigits(done) + "0");
            c.due("DONE " + done, x.ofPerson(0, 1), done);
        }
    }

    private static void deedsDoneThatAreNotThere() {
        c.begin("DEEDS that one has DONE, be there such or not");
        TowerTell x = Checks.towerOf("u-5,p630,p620,p010");
        int[] due = {1, 0, 1};
        for (int p = 0; p < 3; p++) {
            c.due("DEEDS that there are", x.ofPerson(p, 1), due[p]);
            c.due("ROOF", x.roof(p), 5 * due[p]);
            c.due("ODDS", x.odds(p, 0, 1), 1);
            c.due("ODDS of 5", x.odds(p, 5, 1), due[p] + 1);
            c.due("WAY", x.way(p, 5), due[p] == 1 ? 1 : TowerTell.NONE);
            c.due("KEPT", x.kept(p, 5), due[p] == 1 ? 1 : TowerTell.NONE);
        }
        c.due("SAFE is of DEEDS that there are", x.safe(2), 1);
        for (int deeds = 1; deeds <= 6; deeds++) {
            TowerTell some = Checks.towerOf("u" + "-1".repeat(deeds) + ",p630");
            c.due("all of " + deeds, some.ofPerson(0, 1), (1 << deeds) - 1);
        }
    }

    private static void firstOrSecondDigit() {
        c.begin("of two digits the first, if none begins so, else the second");
        for (int done = 64; done <= 99; done++) {
            firstFault("u-1,p" + twoDigits(done) + "0", done < 70 ? 6 : 5);
        }
        firstFault("u-1,p:00", 5);
        firstFault("u-1,p/00", 5);
        firstFault("u-1,p0:0", 6);
        firstFault("u-1,p0/0", 6);
        firstFault("u-1,p6/0", 6);
        firstFault("u-1,p7", 5);
        firstFault("u-1,p64", 6);
        firstFault("u-1,p6", 6);
    }

    private static void knowsZeroToFour() {
        c.begin("a digit 0 .. 4 (KNOWS the PERSON of that number)");
        for (int whom = 0; whom <= 4; whom++) {
            TowerTell x = Checks.towerOf("u-1,p000,p00" + whom);
            c.due("KNOWS", x.ofPerson(1, 2), whom);
            c.due("TELLING", x.tell(1), whom);
        }
        firstFault("u-1,p005", 7);
        firstFault("u-1,p00/", 7);
    }

    private static void knowsOneWhoIsNotThere() {
        c.begin("KNOWS the PERSON of that number, be there one or not");
        for (int whom = 1; whom <= 4; whom++) {
            TowerTell x = Checks.towerOf("u-1,p00" + whom);
            c.due("KNOWS", x.ofPerson(0, 2), whom);
            c.due("a LIE", x.say(0, 0), 1);
        }
        TowerTell four = Checks.towerOf("u-1,p004,p004,p004,p004");
        for (int p = 0; p < 4; p++) {
            c.due("there is never a PERSON 4", four.say(p, 0), 1);
            c.due("to be TOLD on", four.ofPerson(p, 2), 4);
        }
    }

    /** Codes with which a TEXT goes on at each place of "u-1,p000". */
    private static boolean goesOn(int place, int code) {
        String[] codes = {"u", "-", "123456789", ",-", "pra", "0123456", "0123456789", "01234"};
        return code > 0 && codes[place].indexOf(code) >= 0;
    }

    private static void everyCodeAtEveryPlace() {
        c.begin("the place (from 0 on) of the first code with which no TEXT goes on");
        String text = "u-1,p000";
        for (int place = 0; place < text.length(); place++) {
            for (int code = -128; code <= 127; code++) {
                TowerTell x = new TowerTell();
                Checks.row(x, 0, 0, Checks.codes(text));
                x.put(0, place, code);
                boolean beginsDeed = place == 3 && code == '-';
                int due = !goesOn(place, code) ? -100 - place : beginsDeed ? -104 : 1;
                c.due("code " + code + " at " + place, x.tower(0, 0, 0, 8), due);
                c.due("PEOPLE", x.many(0), due == 1 ? 1 : 0);
            }
        }
    }

    private static void theFirstOfSeveral() {
        c.begin("the first code with which no TEXT goes on, of several");
        firstFault("xx", 0);
        firstFault("u-1,p000xx", 8);
        firstFault("u-0,p990", 2);
        firstFault("u-1,p009,p990", 7);
        firstFault("-1,p000", 0);
    }

    private static void endsTooSoon() {
        c.begin("how many codes there are, if it just ends too soon");
        String text = "u-1-2-3-4-5-9,p630,r591,a012,p604";
        for (int n = 0; n <= text.length(); n++) {
            boolean isWhole = n >= 18 && (n - 13) % 5 == 0;
            TowerTell row = new TowerTell();
            int due = isWhole ? (n - 13) / 5 : -100 - n;
            c.due(n + " codes, the row ends there", Checks.build(row, text.substring(0, n)), due);
            TowerTell part = new TowerTell();
            Checks.row(part, 0, 1, Checks.codes("-" + text));
            c.due(n + " codes, the row goes on", part.tower(0, 1, 1, n), due);
            TowerTell longest = new TowerTell();
            longest.sheet(0, 2, 60);
            for (int at = 0; at < n; at++) {
                longest.put(0, 60 - n + at, text.charAt(at));
            }
            c.due(n + " codes, the longest row ends there", longest.tower(0, 2, 60 - n, n), due);
        }
    }

    private static void codesAreNotCut() {
        c.begin("Codes: u 117, p 112, r 114, a 97, - 45, comma 44, digits 48 .. 57");
        int[] codes = {117, 45, 49, 44, 112, 48, 48, 48};
        for (int place = 0; place < codes.length; place++) {
            for (int more : new int[] {256, -256, 65536, 1 << 31}) {
                TowerTell x = new TowerTell();
                Checks.row(x, 0, 2, codes);
                c.due("as ints", x.tower(0, 2, 0, 8), 1);
                x.put(0, place, codes[place] + more);
                c.due(more + " more at " + place, x.tower(0, 2, 0, 8), -100 - place);
            }
        }
        TowerTell bytes = new TowerTell();
        Checks.row(bytes, 0, 0, codes);
        bytes.put(0, 0, 117 + 256);
        c.due("what is cut as it comes to a byte", bytes.tower(0, 0, 0, 8), 1);
    }

    private static void kindsByTheirLetters() {
        c.begin("Kinds: 0 PERSON (p); 1 PROUD (r); 2 ABJECT (a)");
        TowerTell x = Checks.towerOf("u-1,a000,p000,r000");
        c.due("a", x.ofPerson(0, 0), 2);
        c.due("p", x.ofPerson(1, 0), 0);
        c.due("r", x.ofPerson(2, 0), 1);
    }

    private static void makesAllAnew() {
        c.begin("A TEXT that is taken makes all anew: nobody has TOLD anything, all are on FLOOR 0, no READINGS");
        TowerTell x = Checks.towerOf("u-3-4,p034,a034,r034,p034");
        for (int p = 0; p < 4; p++) {
            x.say(p, 0);
            x.say(p, 1);
            x.reading(p, 7);
            x.reading(p, 7);
        }
        x.weigh(0, 9);
        c.due("the same TEXT", x.tower(0, 0, 0, 25), 4);
        for (int p = 0; p < 4; p++) {
            c.due("TOLD", x.ofPerson(p, 3), 0);
            c.due("FLOOR", x.ofPerson(p, 4), 0);
        }
        c.due("all are on FLOOR 0", x.landing(0), 15);
        c.due("no READINGS", x.many(2), 0);
        c.due("no READINGS to take back", x.back(1), TowerTell.OUTSIDE);
        c.due("the WEIGHT of the TEXT", x.weight(0), 3);
        c.due("READINGS are numbered from 0 on", x.reading(0, 1), 0);
    }

    private static void oneTextBehindAnother() {
        c.begin("A TEXT that is taken makes all anew, with fewer or more DEEDS and PEOPLE");
        TowerTell x = new TowerTell();
        int[] deeds = {6, 1, 2, 1, 6, 3, 2, 5};
        int[] people = {4, 1, 3, 2, 4, 1, 2, 3};
        for (int turn = 0; turn < deeds.length; turn++) {
            String text = "u-1-2-3-4-5-6".substring(0, 1 + 2 * deeds[turn]) + ",r634".repeat(people[turn]);
            c.due(text, Checks.build(x, text), people[turn]);
            c.due("PEOPLE", x.many(0), people[turn]);
            c.due("DEEDS", x.many(1), deeds[turn]);
            c.due("the last DEED", x.weight(deeds[turn] - 1), deeds[turn]);
            c.due("no DEED behind it", x.weight(deeds[turn]), TowerTell.UNKNOWN);
            c.due("nothing is TOLD by the last PERSON", x.ofPerson(people[turn] - 1, 3), 0);
            c.due("nobody behind that one", x.ofPerson(people[turn], 3), TowerTell.UNKNOWN);
            x.say(people[turn] - 1, deeds[turn] - 1);
            c.due("a TEXT that is not taken, of a DEED more", x.tower(0, 0, 0, 3), -103);
            c.due("DEEDS", x.many(1), deeds[turn]);
        }
    }

    private static void storeysOfLeastAndGreatest() {
        c.begin("STOREYS: a PERSON its WEIGHT; a PROUD one 1 less; an ABJECT one twice what a PERSON does");
        TowerTell x = Checks.towerOf("u-1-9,p034,r034,a034");
        int[][] due = {{1, 9}, {0, 8}, {2, 18}};
        for (int p = 0; p < 3; p++) {
            for (int d = 0; d < 2; d++) {
                c.due("STOREYS of " + p + " by " + d, x.storeys(p, d), due[p][d]);
            }
            c.due("one rises so", x.say(p, 0), due[p][0]);
            c.due("and so", x.say(p, 1), due[p][0] + due[p][1]);
        }
    }

    private static void ofPersonFromEndToEnd() {
        c.begin("Of a PERSON: 0 kind .. 4 FLOOR");
        TowerTell x = Checks.towerOf("u-9,a634,p000");
        x.say(0, 0);
        int[] due = {2, 1, 4, 1, 18};
        for (int what = 0; what <= 4; what++) {
            c.due("what " + what, x.ofPerson(0, what), due[what]);
            c.due("what " + what + " of another one", x.ofPerson(1, what), 0);
        }
    }

    private static void weighFromOneToNine() {
        c.begin("WEIGHT of a DEED becomes v (1 .. 9): what it was");
        TowerTell x = Checks.towerOf("u-5-5,p000");
        int was = 5;
        for (int v = 1; v <= 9; v++) {
            c.due("what it was", x.weigh(1, v), was);
            c.due("what it is", x.weight(1), v);
            c.due("another one", x.weight(0), 5);
            was = v;
        }
        c.due("0", x.weigh(1, 0), TowerTell.OUTSIDE);
        c.due("10", x.weigh(1, 10), TowerTell.OUTSIDE);
        c.due("what it is", x.weight(1), 9);
    }

    private static void weighTellsFloorsAnew() {
        c.begin("FLOORS are told anew by it");
        TowerTell x = Checks.towerOf("u-5-1,p034,r034,a034,p024");
        for (int p = 0; p < 4; p++) {
            x.say(p, 1);
        }
        for (int v = 9; v >= 1; v -= 8) {
            x.weigh(1, v);
            int[] due = {v, v - 1, 2 * v, v};
            for (int p = 0; p < 4; p++) {
                c.due("FLOOR", x.ofPerson(p, 4), due[p]);
                c.due("TOLD stays", x.ofPerson(p, 3), 2);
            }
            c.due("who is on a landing", x.landing(v), 9);
        }
        x.weigh(0, 9);
        c.due("what is not TOLD does not count", x.ofPerson(0, 4), 1);
    }
}
