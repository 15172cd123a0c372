/** Each promise of the document: ordinary inputs, the edges that it names, and wrong inputs. */
public final class PromiseTest {
    private static final int NULL = -11, CAST = -12, INDEX = -13, SIZE = -14;
    /** Four DEEDS, and one PERSON of each kind and another: 0 KNOWS 2, 1 and 2 KNOW 0, 3 KNOWS 1. */
    private static final String FOUR = "u-3-1-4-2,p052,r060,a100,p151";
    private static final int LEAST = Integer.MIN_VALUE, GREATEST = Integer.MAX_VALUE;
    private static final Checks c = new Checks();

    public static void main(String[] args) {
        newObject();
        towerTaken();
        towerFirstFault();
        towerOfPart();
        towerRefused();
        ofPerson();
        weightAndWeigh();
        storeys();
        say();
        sayCaught();
        hush();
        landing();
        daysAnswers();
        daysFromNow();
        daysRefused();
        way();
        kept();
        roof();
        safe();
        reading();
        back();
        weights();
        kinds();
        knew();
        guessesRefused();
        odds();
        sheet();
        lose();
        put();
        cell();
        copy();
        tellAndTrace();
        greet();
        as();
        fault();
        many();
        c.end("PromiseTest");
    }

    private static void newObject() {
        c.begin("1 a new object");
        TowerTell x = new TowerTell();
        for (int what = 0; what <= 2; what++) {
            c.due("many", x.many(what), 0);
        }
        c.due("fault", x.fault(), 0);
        c.due("trace", x.trace(), 0);
        for (int k = 0; k <= 3; k++) {
            c.due("lose", x.lose(k), 0);
            c.due("put", x.put(k, 0, 1), NULL);
        }
        c.due("ofPerson", x.ofPerson(0, 0), TowerTell.UNKNOWN);
        c.due("weight", x.weight(0), TowerTell.UNKNOWN);
        c.due("landing", x.landing(0), TowerTell.STATE);
        c.due("back", x.back(0), 0);
    }

    private static void towerTaken() {
        c.begin("2 tower");
        TowerTell x = new TowerTell();
        c.due("the shortest", Checks.build(x, "u-1,p000"), 1);
        c.due("the longest", Checks.build(x, "u-1-2-3-4-5-9,p630,r591,a012,p604"), 4);
        c.due("DEEDS of it", x.many(1), 6);
        c.due("the last WEIGHT", x.weight(5), 9);
        c.due("DONE 63", x.ofPerson(0, 1), 63);
        c.due("KNOWS 4", x.ofPerson(3, 2), 4);
        Checks.row(x, 1, 1, Checks.codes("zzu-7,a011z"));
        c.due("from 2 on, as shorts", x.tower(1, 1, 2, 8), 1);
        c.due("kind", x.ofPerson(0, 0), 2);
        Checks.row(x, 2, 2, Checks.codes("u-7,r011"));
        c.due("as ints", x.tower(2, 2, 0, 8), 1);
        x.say(0, 0);
        x.reading(0, 3);
        c.due("anew", x.tower(2, 2, 0, 8), 1);
        c.due("nothing TOLD", x.ofPerson(0, 3), 0);
        c.due("FLOOR 0", x.ofPerson(0, 4), 0);
        c.due("no READINGS", x.many(2), 0);
    }

    private static void firstFault(String text, int place) {
        TowerTell x = Checks.towerOf("u-2-5,p031");
        x.say(0, 1);
        x.reading(0, 5);
        x.as(0, 2);
        c.due("tower of " + text, Checks.build(x, text), -100 - place);
        c.due("fault()", x.fault(), 0);
        c.due("DEEDS are as they were", x.many(1), 2);
        c.due("TOLD is as it was", x.ofPerson(0, 3), 2);
        c.due("READINGS are as they were", x.many(2), 1);
    }

    private static void towerFirstFault() {
        c.begin("2 tower, FIRST FAULT");
        String whole = "u-1-2-3-4-5-9,p630,r591,a012,p604";
        for (int n = 0; n < whole.length(); n++) {
            boolean isTaken = n == 18 || n == 23 || n == 28;
            if (!isTaken) {
                firstFault(whole.substring(0, n), n);
            }
            firstFault(whole.substring(0, n) + '!' + whole.substring(n), n);
        }
        firstFault(whole + "x", 33);
        firstFault(whole + ",p000", 33);
        firstFault("u-1-1-1-1-1-1-1,p000", 13);
        firstFault("u-1-1-1-1-1-1p", 13);
        firstFault("u,p000", 1);
        firstFault("u-0,p000", 2);
        firstFault("u-,p000", 2);
        firstFault("u-1,0000", 4);
        firstFault("u-1,p,p000", 5);
        firstFault("u-1,p0,p000", 6);
        firstFault("u-1,p00,p000", 7);
        firstFault("u-:,p000", 2);
        firstFault("u-1,u000", 4);
        firstFault("u-1,p700", 5);
        firstFault("u-1,p640", 6);
        firstFault("u-1,p6/0", 6);
        firstFault("u-1,p5:0", 6);
        firstFault("u-1,p005", 7);
        firstFault("u-1,p000-1", 8);
        TowerTell x = new TowerTell();
        Checks.row(x, 0, 2, 117 + 256, 45, 49, 44, 112, 48, 48, 48);
        c.due("an int that would be u if it were cut", x.tower(0, 2, 0, 8), -100);
    }

    private static void towerOfPart() {
        c.begin("2 tower, of a part of a row");
        String whole = "u-1-2-3-4-5-9,p630,r591,a012,p604";
        TowerTell x = new TowerTell();
        Checks.row(x, 0, 0, Checks.codes(whole));
        for (int n = 0; n <= whole.length(); n++) {
            boolean isWhole = n >= 18 && (n - 13) % 5 == 0;
            c.due(n + " codes, others behind them", x.tower(0, 0, 0, n), isWhole ? (n - 13) / 5 : -100 - n);
        }
        for (int n = 0; n < 18; n++) {
            x.sheet(1, 2, 60);
            for (int at = 0; at < n; at++) {
                x.put(1, 60 - n + at, whole.charAt(at));
            }
            c.due(n + " codes at the end of the longest row", x.tower(1, 2, 60 - n, n), -100 - n);
        }
        c.due("a TOWER behind one that failed", Checks.build(x, "u-2,r011,p000"), 2);
        c.due("DEEDS of it", x.many(1), 1);
        x.say(0, 0);
        Checks.build(x, "u-2,p000");
        Checks.build(x, "u-2,r011,p000");
        c.due("nothing TOLD", x.ofPerson(0, 3), 0);
    }

    private static void towerRefused() {
        c.begin("2 tower, refused");
        TowerTell x = new TowerTell();
        Checks.row(x, 0, 0, Checks.codes("u-1,p000"));
        c.due("no SHEET", x.tower(-1, 5, 0, 8), TowerTell.UNKNOWN);
        c.due("no SHEET", x.tower(4, 0, 0, 8), TowerTell.UNKNOWN);
        c.due("no LANE", x.tower(1, 3, 0, 8), TowerTell.OUTSIDE);
        c.due("no LANE", x.tower(1, -1, 0, 8), TowerTell.OUTSIDE);
        c.due("another LANE", x.tower(0, 1, -1, -1), CAST);
        c.due("nothing", x.tower(1, 1, -1, -1), NULL);
        c.due("n below 0", x.tower(0, 0, -1, -1), SIZE);
        c.due("fault", x.fault(), 4);
        c.due("i below 0", x.tower(0, 0, -1, 8), INDEX);
        c.due("i beyond, no cell", x.tower(0, 0, 9, 0), INDEX);
        c.due("i below 0, no cell", x.tower(0, 0, -1, 0), INDEX);
        c.due("i at the end, no cell", x.tower(0, 0, 8, 0), -100);
        c.due("fault", x.fault(), 0);
        c.due("too many cells", x.tower(0, 0, 0, 9), INDEX);
        c.due("too many cells", x.tower(0, 0, 1, GREATEST), INDEX);
        c.due("far too far", x.tower(0, 0, GREATEST, GREATEST), INDEX);
        c.due("far below", x.tower(0, 0, LEAST, LEAST), SIZE);
        c.due("no PEOPLE", x.many(0), 0);
    }

    private static void ofPerson() {
        c.begin("3 ofPerson");
        TowerTell x = Checks.towerOf("u-3-1,p632,r601,a104");
        int[][] due = {{0, 3, 2, 0, 0}, {1, 0, 1, 0, 0}, {2, 2, 4, 0, 0}};
        for (int p = 0; p < 3; p++) {
            for (int what = 0; what < 5; what++) {
                c.due("ofPerson " + p + " " + what, x.ofPerson(p, what), due[p][what]);
            }
            c.due("what 5", x.ofPerson(p, 5), TowerTell.OUTSIDE);
            c.due("what -1", x.ofPerson(p, -1), TowerTell.OUTSIDE);
        }
        x.say(2, 1);
        c.due("TOLD", x.ofPerson(2, 3), 2);
        c.due("FLOOR", x.ofPerson(2, 4), 2);
        c.due("no PERSON", x.ofPerson(3, 9), TowerTell.UNKNOWN);
        c.due("no PERSON", x.ofPerson(-1, 9), TowerTell.UNKNOWN);
    }

    private static void weightAndWeigh() {
        c.begin("4 weight, 5 weigh");
        TowerTell x = Checks.towerOf("u-3-9,p030,r020");
        c.due("weight", x.weight(0), 3);
        c.due("weight", x.weight(1), 9);
        c.due("weight", x.weight(2), TowerTell.UNKNOWN);
        c.due("weight", x.weight(-1), TowerTell.UNKNOWN);
        x.say(0, 0);
        x.say(0, 1);
        x.say(1, 1);
        c.due("weigh", x.weigh(1, 1), 9);
        c.due("weight then", x.weight(1), 1);
        c.due("FLOOR is told anew", x.ofPerson(0, 4), 4);
        c.due("FLOOR is told anew", x.ofPerson(1, 4), 0);
        c.due("TOLD stays", x.ofPerson(1, 3), 2);
        c.due("weigh", x.weigh(1, 9), 1);
        c.due("v 0", x.weigh(1, 0), TowerTell.OUTSIDE);
        c.due("v 10", x.weigh(1, 10), TowerTell.OUTSIDE);
        c.due("as it was", x.weight(1), 9);
        c.due("no DEED", x.weigh(2, 0), TowerTell.UNKNOWN);
        c.due("no DEED", x.weigh(-1, 1), TowerTell.UNKNOWN);
    }

    private static void storeys() {
        c.begin("6 storeys");
        TowerTell x = Checks.towerOf("u-1-9,p000,r000,a000");
        int[][] due = {{1, 9}, {0, 8}, {2, 18}};
        for (int p = 0; p < 3; p++) {
            c.due("storeys", x.storeys(p, 0), due[p][0]);
            c.due("storeys", x.storeys(p, 1), due[p][1]);
            c.due("no DEED", x.storeys(p, 2), TowerTell.UNKNOWN);
            c.due("no DEED", x.storeys(p, -1), TowerTell.UNKNOWN);
        }
        c.due("no PERSON", x.storeys(3, 0), TowerTell.UNKNOWN);
        c.due("no PERSON", x.storeys(-1, 0), TowerTell.UNKNOWN);
    }

    private static void say() {
        c.begin("7 say");
        TowerTell x = Checks.towerOf("u-3-4-1,p033,r033,a033,p004");
        c.due("a TRUTH of a PERSON", x.say(0, 0), 3);
        c.due("one more", x.say(0, 1), 7);
        c.due("a TRUTH of a PROUD one", x.say(1, 1), 3);
        c.due("a TRUTH of an ABJECT one", x.say(2, 1), 8);
        c.due("a LIE that nobody hears", x.say(1, 2), 3);
        c.due("TOLD, though it is no storey", x.ofPerson(1, 3), 6);
        c.due("TOLD already", x.say(0, 1), TowerTell.STATE);
        c.due("as it was", x.ofPerson(0, 3), 3);
        c.due("no PERSON", x.say(4, 0), TowerTell.UNKNOWN);
        c.due("no PERSON", x.say(-1, 0), TowerTell.UNKNOWN);
        c.due("no DEED", x.say(0, 3), TowerTell.UNKNOWN);
        c.due("no DEED", x.say(0, -1), TowerTell.UNKNOWN);
    }

    private static void sayCaught() {
        c.begin("7 say, CAUGHT");
        TowerTell x = Checks.towerOf("u-3-4-3,p011,p010,p000");
        c.due("a LIE on the FLOOR of one who KNOWS one", x.say(0, 1), 0);
        c.due("it is not TOLD", x.ofPerson(0, 3), 0);
        c.due("a TRUTH there", x.say(0, 0), 3);
        c.due("a LIE on another FLOOR", x.say(0, 1), 7);
        c.due("one who KNOWS one rises by a TRUTH", x.say(1, 0), 3);
        c.due("the FLOOR ahead of it counts, not that behind it", x.say(1, 1), 7);
        c.due("put down from above", x.say(0, 2), 0);
        c.due("as if one had TOLD nothing", x.ofPerson(0, 3), 0);
        c.due("who KNOWS one stays", x.ofPerson(1, 4), 7);
        c.due("one may TELL it again", x.say(0, 0), 3);
        TowerTell first = Checks.towerOf("u-3,p001,p002");
        c.due("CAUGHT by PERSON 0", first.say(1, 0), 0);
        c.due("a LIE of PERSON 0, whom nobody KNOWS", first.say(0, 0), 3);
        TowerTell alone = Checks.towerOf("u-3,p000,p002");
        c.due("one who KNOWS oneself is not another one", alone.say(0, 0), 3);
        c.due("KNOWS one who is not there", alone.say(1, 0), 3);
    }

    private static void hush() {
        c.begin("8 hush");
        TowerTell x = Checks.towerOf("u-3-4,p034,a030");
        x.say(0, 0);
        x.say(0, 1);
        c.due("hush", x.hush(0), 7);
        c.due("TOLD", x.ofPerson(0, 3), 0);
        c.due("FLOOR", x.ofPerson(0, 4), 0);
        c.due("hush again", x.hush(0), 0);
        x.say(1, 1);
        c.due("another one", x.hush(1), 8);
        c.due("no PERSON", x.hush(2), TowerTell.UNKNOWN);
        c.due("no PERSON", x.hush(-1), TowerTell.UNKNOWN);
    }

    private static void landing() {
        c.begin("9 landing");
        TowerTell x = new TowerTell();
        c.due("no TOWER is told first", x.landing(-1), TowerTell.STATE);
        Checks.build(x, "u-2-1,p030,p030,a020");
        c.due("all", x.landing(0), 7);
        x.say(0, 0);
        x.say(2, 1);
        c.due("two", x.landing(2), 5);
        c.due("one", x.landing(0), 2);
        c.due("nobody", x.landing(1), 0);
        c.due("nobody", x.landing(GREATEST), 0);
        c.due("f below 0", x.landing(-1), TowerTell.OUTSIDE);
    }

    private static void daysAnswers() {
        c.begin("10 days");
        TowerTell x = Checks.towerOf("u-3-4,p011,r010,a034");
        // 0 TELLS a TRUTH, then a LIE unheard; 1 lies unheard; 2 a TRUTH; 1 rises by a TRUTH that no one can doubt.
        Checks.row(x, 1, 0, 0, 0, 0, 1, 1, 1, 2, 1, 1, 0);
        c.due("CAUGHT", x.days(1, 0, 0, 5, 0), 0);
        c.due("FIRST WRONG", x.days(1, 0, 0, 5, 1), TowerTell.NONE);
        c.due("the highest FLOOR", x.days(1, 0, 0, 5, 2), 8);
        c.due("the highest FLOOR, of PERSON 0", x.days(1, 0, 0, 2, 2), 7);
        c.due("FLOOR", x.days(1, 0, 0, 5, 10), 7);
        c.due("FLOOR", x.days(1, 0, 0, 5, 11), 5);
        c.due("FLOOR", x.days(1, 0, 0, 5, 12), 8);
        c.due("no such PERSON", x.days(1, 0, 0, 5, 13), TowerTell.NONE);
        c.due("TOLD", x.days(1, 0, 0, 4, 20), 3);
        c.due("TOLD", x.days(1, 0, 0, 4, 21), 2);
        c.due("TOLD", x.days(1, 0, 0, 3, 22), 0);
        c.due("no such PERSON", x.days(1, 0, 0, 5, 23), TowerTell.NONE);
        c.due("nothing is changed", x.landing(0), 7);
        Checks.row(x, 1, 1, 7, 0, 1, 0, 1, 0, 0, 0, 0, 0, 1);
        c.due("CAUGHT twice, then a TRUTH", x.days(1, 1, 1, 3, 0), 2);
        c.due("CAUGHT twice, asked again", x.days(1, 1, 1, 3, 0), 2);
        c.due("TOLD then", x.days(1, 1, 1, 3, 20), 1);
        c.due("FIRST WRONG", x.days(1, 1, 1, 4, 1), 3);
        for (int what : new int[] {0, 2, 10, 11, 12, 13, 20, 21, 22, 23}) {
            c.due("of those with a FIRST WRONG", x.days(1, 1, 1, 5, what), -103);
        }
        c.due("no DAYS", x.days(1, 1, 11, 0, 2), 0);
    }

    private static void daysFromNow() {
        c.begin("10 days, from how all is now");
        TowerTell x = Checks.towerOf("u-3-4,p011,p010");
        Checks.row(x, 1, 2, 0, 1, 0, 0);
        x.say(0, 0);
        c.due("a LIE that is not heard up there", x.days(1, 2, 0, 1, 0), 0);
        c.due("FLOOR", x.days(1, 2, 0, 1, 10), 7);
        c.due("TOLD", x.days(1, 2, 0, 1, 20), 3);
        c.due("TOLD now already", x.days(1, 2, 0, 2, 1), 1);
        c.due("TOLD now already", x.days(1, 2, 2, 1, 0), -100);
        c.due("it stays so", x.ofPerson(0, 3), 1);
        Checks.row(x, 1, 2, new int[40]);
        x.hush(0);
        c.due("20 pairs", x.days(1, 2, 0, 20, 1), 1);
        Checks.build(x, "u-3-4,p011,p014");
        Checks.row(x, 1, 2, 0, 1);
        c.due("by who KNOWS whom now", x.days(1, 2, 0, 1, 0), 0);
        Checks.build(x, "u-9-9,p011,p010");
        c.due("by who KNOWS whom now", x.days(1, 2, 0, 1, 0), 1);
        x.say(0, 0);
        x.say(1, 0);
        Checks.build(x, "u-3-4,p014");
        c.due("the highest FLOOR of PEOPLE that there are", x.days(1, 2, 0, 0, 2), 0);
    }

    private static void daysRefused() {
        c.begin("10 days, refused");
        TowerTell x = new TowerTell();
        c.due("no SHEET", x.days(4, 9, 0, 0, 9), TowerTell.UNKNOWN);
        c.due("no SHEET", x.days(-1, 9, 0, 0, 9), TowerTell.UNKNOWN);
        c.due("no LANE", x.days(0, 3, 0, 0, 0), TowerTell.OUTSIDE);
        c.due("n 21", x.days(0, 0, 0, 21, 0), TowerTell.OUTSIDE);
        c.due("n -1", x.days(0, 0, 0, -1, 0), TowerTell.OUTSIDE);
        for (int what : new int[] {-1, 3, 9, 14, 19, 24, LEAST, GREATEST}) {
            c.due("what " + what, x.days(0, 0, 0, 0, what), TowerTell.OUTSIDE);
        }
        c.due("nothing", x.days(0, 0, 0, 0, 0), NULL);
        Checks.row(x, 0, 0, 0, 0, 9);
        c.due("another LANE", x.days(0, 1, 9, 0, 0), CAST);
        c.due("i beyond", x.days(0, 0, 4, 0, 0), INDEX);
        c.due("i below 0", x.days(0, 0, -1, 0, 0), INDEX);
        c.due("i far beyond", x.days(0, 0, GREATEST, 20, 0), INDEX);
        c.due("half a pair is not there", x.days(0, 0, 0, 2, 0), INDEX);
        c.due("no TOWER", x.days(0, 0, 0, 1, 0), TowerTell.STATE);
        c.due("fault", x.fault(), 0);
        c.due("no TOWER, no DAYS", x.days(0, 0, 3, 0, 1), TowerTell.STATE);
        Checks.build(x, "u-3,p010,p010");
        Checks.row(x, 1, 2, 0, 0, 0, 0, 1, 1);
        c.due("no DEED, behind a FIRST WRONG, too", x.days(1, 2, 0, 3, 1), TowerTell.UNKNOWN);
        Checks.row(x, 1, 2, 2, 0);
        c.due("no PERSON", x.days(1, 2, 0, 1, 1), TowerTell.UNKNOWN);
        Checks.row(x, 1, 2, 0, 0, 2, 0);
        c.due("no PERSON in the second pair", x.days(1, 2, 0, 2, 1), TowerTell.UNKNOWN);
        c.due("what is behind them does not matter", x.days(1, 2, 0, 1, 1), TowerTell.NONE);
        Checks.row(x, 1, 2, -1, -1);
        c.due("below 0", x.days(1, 2, 0, 1, 1), TowerTell.UNKNOWN);
    }

    private static void way() {
        c.begin("11 way");
        TowerTell x = Checks.towerOf("u-2-3-1-4-3,p314,r310,a034,p024");
        int[] due = {0, 4, 1, 2, 8, 3, 9, 10, 14, 11, 26, 30, 27, 31, TowerTell.NONE};
        for (int f = 0; f < due.length; f++) {
            c.due("way to " + f, x.way(0, f), due[f]);
        }
        x.say(0, 0);
        c.due("TOLD alone, whatever is TOLD now", x.way(0, 2), 1);
        c.due("no storey is no TRUTH needed", x.way(1, 0), 0);
        c.due("of a PROUD one", x.way(1, 3), 8);
        c.due("of an ABJECT one", x.way(2, 10), 3);
        c.due("not by LIES", x.way(3, 2), TowerTell.NONE);
        c.due("by TRUTHS", x.way(3, 3), 2);
        c.due("far", x.way(0, GREATEST), TowerTell.NONE);
        c.due("f below 0", x.way(0, -1), TowerTell.OUTSIDE);
        c.due("no PERSON", x.way(4, -1), TowerTell.UNKNOWN);
        c.due("no PERSON", x.way(-1, 0), TowerTell.UNKNOWN);
    }

    private static void kept() {
        c.begin("12 kept");
        TowerTell x = Checks.towerOf("u-2-3-1-4,p154,r154,a054,p024");
        int[] due = {0, 4, 1, 0, 0, 0, 1, 8, 14, 11, 15, TowerTell.NONE};
        for (int f = 0; f < due.length; f++) {
            c.due("kept for " + f, x.kept(0, f), due[f]);
        }
        c.due("of a PROUD one: what is no storey is not kept", x.kept(1, 6), 11);
        c.due("of an ABJECT one", x.kept(2, 6), 5);
        c.due("not by LIES", x.kept(3, 2), TowerTell.NONE);
        c.due("far", x.kept(0, GREATEST), TowerTell.NONE);
        c.due("f below 0", x.kept(0, -1), TowerTell.OUTSIDE);
        c.due("no PERSON", x.kept(4, -1), TowerTell.UNKNOWN);
        c.due("no PERSON", x.kept(-1, 0), TowerTell.UNKNOWN);
    }

    private static void roof() {
        c.begin("13 roof");
        TowerTell x = Checks.towerOf("u-9-9-9-9-9-9,p630,r630,a630,p040");
        c.due("roof", x.roof(0), 54);
        c.due("roof", x.roof(1), 48);
        c.due("roof", x.roof(2), 108);
        c.due("roof", x.roof(3), 9);
        c.due("no PERSON", x.roof(4), TowerTell.UNKNOWN);
        c.due("no PERSON", x.roof(-1), TowerTell.UNKNOWN);
        TowerTell few = Checks.towerOf("u-9,p620");
        c.due("DONE what is not there", few.roof(0), 0);
    }

    private static void safe() {
        c.begin("14 safe");
        TowerTell x = Checks.towerOf("u-3-4-1,p011,p010,p044");
        c.due("only TRUTHS, among those who KNOW one", x.safe(0), 1);
        c.due("nobody KNOWS one", x.safe(2), 7);
        x.say(0, 0);
        c.due("LIES too, on another FLOOR, but nothing that is TOLD", x.safe(0), 6);
        c.due("who KNOWS one has left", x.safe(1), 7);
        c.due("nothing is changed", x.ofPerson(0, 3), 1);
        c.due("no PERSON", x.safe(3), TowerTell.UNKNOWN);
        c.due("no PERSON", x.safe(-1), TowerTell.UNKNOWN);
        TowerTell alone = Checks.towerOf("u-3,p000");
        c.due("one who KNOWS oneself", alone.safe(0), 1);
    }

    private static void reading() {
        c.begin("15 reading");
        TowerTell x = new TowerTell();
        c.due("no TOWER", x.reading(0, 0), TowerTell.UNKNOWN);
        Checks.build(x, "u-3,p010");
        for (int k = 0; k < 8; k++) {
            c.due("reading", x.reading(0, k == 7 ? 99 : k), k);
        }
        c.due("a ninth", x.reading(0, 0), TowerTell.FULL);
        c.due("f 100", x.reading(0, 100), TowerTell.OUTSIDE);
        c.due("f -1", x.reading(0, -1), TowerTell.OUTSIDE);
        c.due("no PERSON", x.reading(1, -1), TowerTell.UNKNOWN);
        c.due("no PERSON", x.reading(-1, 0), TowerTell.UNKNOWN);
        c.due("how many", x.many(2), 8);
    }

    private static void back() {
        c.begin("16 back");
        TowerTell x = Checks.towerOf("u-3,p014");
        x.reading(0, 3);
        x.reading(0, 0);
        Checks.row(x, 1, 0, 0, 0);
        c.due("more than there are", x.back(3), TowerTell.OUTSIDE);
        c.due("below 0", x.back(-1), TowerTell.OUTSIDE);
        c.due("none", x.back(0), 2);
        c.due("both can't be so", x.weights(0, 1, 0, 0, 1), 0);
        c.due("the last", x.back(1), 1);
        c.due("the first is left", x.weights(0, 1, 0, 0, 1), 8);
        c.due("numbers go on from there", x.reading(0, 3), 1);
        c.due("all", x.back(2), 0);
        c.due("none is left", x.back(1), TowerTell.OUTSIDE);
    }

    private static void weights() {
        c.begin("17 weights");
        TowerTell x = Checks.towerOf("u-3-4,p011,r010,a034");
        Checks.row(x, 1, 2, 0, 0, 1, 0);
        c.due("without READINGS all", x.weights(0, 1, 2, 0, 2), 1022);
        x.reading(1, 2);
        c.due("a TRUTH of another one, a LIE of a PROUD one", x.weights(0, 1, 2, 0, 2), 8);
        c.due("another DEED does not matter", x.weights(1, 1, 2, 0, 2), 1022);
        x.reading(0, 5);
        c.due("two READINGS that can't be so", x.weights(0, 1, 2, 0, 2), 0);
        c.due("alone: the other WEIGHT stays", x.weights(1, 1, 2, 0, 2), 0);
        x.back(2);
        x.say(2, 1);
        x.reading(2, 12);
        c.due("who is where now by it, too", x.weights(1, 1, 2, 0, 1), 1 << 6);
        c.due("nothing is changed", x.weight(1), 4);
        Checks.row(x, 1, 2, 0, 0, 0, 0);
        c.due("a FIRST WRONG by all", x.weights(0, 1, 2, 0, 2), 0);
        TowerTell met = Checks.towerOf("u-3-4-2,p051,p024");
        Checks.row(met, 1, 0, 0, 0, 1, 1, 0, 1);
        met.say(0, 2);
        met.hush(0);
        met.reading(0, 7);
        c.due("0 lies where nobody KNOWS it", met.weights(0, 1, 0, 0, 3), 8);
        TowerTell heard = Checks.towerOf("u-3-4,p014,p020");
        Checks.row(heard, 1, 0, 0, 0, 1, 1, 0, 1, 0, 0);
        c.due("TOLD again only as one is CAUGHT: 0 stands where 1 does", heard.weights(0, 1, 0, 0, 4), 1 << 4);
    }

    private static void kinds() {
        c.begin("18 kinds");
        TowerTell x = Checks.towerOf("u-2-4,p011,r010,a034");
        Checks.row(x, 1, 0, 0, 0);
        c.due("without READINGS all", x.kinds(0, 1, 0, 0, 1), 7);
        for (int kind = 0; kind < 3; kind++) {
            x.reading(0, new int[] {2, 1, 4}[kind]);
            c.due("by its FLOOR", x.kinds(0, 1, 0, 0, 1), 1 << kind);
            x.back(1);
        }
        x.reading(0, 3);
        c.due("none", x.kinds(0, 1, 0, 0, 1), 0);
        x.back(1);
        x.say(2, 1);
        x.reading(2, 3);
        c.due("who is where now by it, too", x.kinds(2, 1, 0, 0, 0), 2);
        c.due("alone: another one's kind stays", x.kinds(0, 1, 0, 0, 0), 0);
        c.due("nothing is changed", x.ofPerson(2, 0), 2);
    }

    private static void knew() {
        c.begin("19 knew");
        TowerTell x = Checks.towerOf("u-2-4,p013,r030,a034");
        Checks.row(x, 1, 0, 1, 0, 0, 1);
        c.due("without READINGS all", x.knew(2, 1, 0, 0, 2), 31);
        x.reading(0, 4);
        c.due("not CAUGHT: all but who is heard", x.knew(2, 1, 0, 0, 2), 30);
        c.due("who has risen hears nothing; oneself neither", x.knew(1, 1, 0, 0, 2), 31);
        c.due("of oneself", x.knew(0, 1, 0, 0, 2), 31);
        x.back(1);
        x.reading(0, 0);
        c.due("CAUGHT by this one alone", x.knew(2, 1, 0, 0, 2), 1);
        c.due("nothing is changed", x.ofPerson(2, 2), 4);
        x.back(1);
        x.reading(1, 9);
        c.due("none", x.knew(2, 1, 0, 0, 2), 0);
    }

    private static int guess(TowerTell x, int call, int who, int sheet, int lane, int i, int n) {
        return call == 0 ? x.weights(who, sheet, lane, i, n)
                : call == 1 ? x.kinds(who, sheet, lane, i, n) : x.knew(who, sheet, lane, i, n);
    }

    private static void guessesRefused() {
        c.begin("17, 18, 19, refused");
        for (int call = 0; call < 3; call++) {
            TowerTell x = new TowerTell();
            x.put(0, 0, 0);
            c.due("no TOWER", guess(x, call, 0, 0, 9, 0, 0), TowerTell.UNKNOWN);
            c.due("fault", x.fault(), 0);
            Checks.build(x, "u-3-4,p010,p010");
            c.due("none such", guess(x, call, 2, 0, 9, 0, 0), TowerTell.UNKNOWN);
            c.due("none such", guess(x, call, -1, 0, 9, 0, 0), TowerTell.UNKNOWN);
            c.due("no SHEET", guess(x, call, 0, 4, 9, 0, 0), TowerTell.UNKNOWN);
            c.due("no LANE", guess(x, call, 0, 1, 3, 0, 0), TowerTell.OUTSIDE);
            c.due("n 21", guess(x, call, 0, 1, 0, 0, 21), TowerTell.OUTSIDE);
            c.due("n -1", guess(x, call, 0, 1, 0, 0, -1), TowerTell.OUTSIDE);
            c.due("nothing", guess(x, call, 0, 1, 0, 0, 0), NULL);
            c.due("fault", x.fault(), 1);
            Checks.row(x, 1, 0, 0, 0, 2, 0, 0, 2, 9);
            c.due("another LANE", guess(x, call, 0, 1, 2, -1, 0), CAST);
            c.due("i below 0", guess(x, call, 0, 1, 0, -1, 0), INDEX);
            c.due("too many", guess(x, call, 0, 1, 0, 0, 4), INDEX);
            c.due("no PERSON there", guess(x, call, 0, 1, 0, 2, 1), TowerTell.UNKNOWN);
            c.due("no DEED there", guess(x, call, 0, 1, 0, 4, 1), TowerTell.UNKNOWN);
            c.due("fault", x.fault(), 0);
        }
    }

    private static void share(TowerTell x, int p, int f, int upper, int lower) {
        c.due("upper number for " + f, x.odds(p, f, 0), upper);
        c.due("lower number for " + f, x.odds(p, f, 1), lower);
    }

    private static void odds() {
        c.begin("20 odds");
        TowerTell x = Checks.towerOf("u-2-3-1,p070,r070,a040,p000");
        share(x, 0, 0, 1, 1);
        share(x, 0, 1, 7, 8);
        share(x, 0, 2, 3, 4);
        share(x, 0, 3, 5, 8);
        share(x, 0, 4, 3, 8);
        share(x, 0, 5, 1, 4);
        share(x, 0, 6, 1, 8);
        share(x, 0, 7, 0, 1);
        share(x, 0, GREATEST, 0, 1);
        share(x, 1, 3, 1, 4);
        share(x, 2, 2, 1, 2);
        share(x, 3, 0, 1, 1);
        share(x, 3, 1, 0, 1);
        x.say(0, 1);
        share(x, 0, 6, 1, 8);
        c.due("no PERSON", x.odds(4, 0, 0), TowerTell.LOST);
        c.due("no PERSON", x.odds(-1, 0, 0), TowerTell.LOST);
        c.due("f below 0", x.odds(0, -1, 0), TowerTell.LOST);
        c.due("which 2", x.odds(0, 0, 2), TowerTell.LOST);
        c.due("which -1", x.odds(0, 0, -1), TowerTell.LOST);
    }

    private static void sheet() {
        c.begin("21 sheet");
        TowerTell x = new TowerTell();
        for (int lane = 0; lane < 3; lane++) {
            c.due("sheet", x.sheet(3, lane, 60), 1);
            c.due("0 at first", x.cell(3, 0, lane), 0);
            c.due("0 at first", x.cell(3, 59, lane), 0);
            x.put(3, 0, 7);
            x.put(3, 59, 7);
        }
        c.due("no SHEET", x.sheet(4, 9, 99), TowerTell.UNKNOWN);
        c.due("no SHEET", x.sheet(-1, 0, 1), TowerTell.UNKNOWN);
        c.due("no LANE", x.sheet(3, 3, -1), TowerTell.OUTSIDE);
        c.due("no LANE", x.sheet(3, -1, 1), TowerTell.OUTSIDE);
        c.due("n 61", x.sheet(3, 0, 61), TowerTell.OUTSIDE);
        c.due("n -1", x.sheet(3, 0, -1), SIZE);
        c.due("fault", x.fault(), 4);
        c.due("as it was", x.cell(3, 59, 2), 7);
        c.due("no cells", x.sheet(3, 2, 0), 1);
        c.due("none is there", x.put(3, 0, 1), INDEX);
        c.due("anew", x.sheet(3, 2, 60), 1);
        c.due("0 at first", x.cell(3, 59, 2), 0);
    }

    private static void lose() {
        c.begin("22 lose");
        TowerTell x = new TowerTell();
        x.sheet(2, 1, 0);
        c.due("a row of no cells is something", x.lose(2), 1);
        c.due("nothing", x.lose(2), 0);
        c.due("NULL then", x.put(2, 0, 0), NULL);
        c.due("no SHEET", x.lose(4), TowerTell.UNKNOWN);
        c.due("no SHEET", x.lose(-1), TowerTell.UNKNOWN);
        c.due("it names no FAULTS", x.fault(), 1);
    }

    private static void put() {
        c.begin("23 put");
        TowerTell x = new TowerTell();
        int[] given = {127, 128, -129, 32768, 65535, GREATEST, LEAST};
        long[][] due = {{127, -128, 127, 0, -1, -1, 0}, {127, 128, -129, -32768, -1, -1, 0},
            {127, 128, -129, 32768, 65535, GREATEST, LEAST}};
        for (int lane = 0; lane < 3; lane++) {
            x.sheet(0, lane, 2);
            for (int i = 0; i < given.length; i++) {
                c.due("put", x.put(0, 1, given[i]), 1);
                c.due("cut to its LANE", x.cell(0, 1, lane), due[lane][i]);
            }
            c.due("another cell stays", x.cell(0, 0, lane), 0);
        }
        c.due("no SHEET", x.put(4, 9, 0), TowerTell.UNKNOWN);
        c.due("no SHEET", x.put(-1, 9, 0), TowerTell.UNKNOWN);
        c.due("nothing", x.put(1, 9, 0), NULL);
        c.due("i 2", x.put(0, 2, 0), INDEX);
        c.due("i -1", x.put(0, -1, 0), INDEX);
        c.due("i far", x.put(0, GREATEST, 0), INDEX);
        c.due("fault", x.fault(), 3);
    }

    private static void lost(TowerTell x, int k, int i, int lane, int fault) {
        c.due("cell", x.cell(k, i, lane), TowerTell.LOST);
        c.due("fault", x.fault(), fault);
    }

    private static void cell() {
        c.begin("24 cell");
        TowerTell x = new TowerTell();
        Checks.row(x, 0, 1, 5, -6);
        c.due("cell", x.cell(0, 0, 1), 5);
        c.due("cell", x.cell(0, 1, 1), -6);
        c.due("fault", x.fault(), 0);
        lost(x, 0, 9, 0, 2);
        lost(x, 4, 0, 1, 0);
        lost(x, 0, 2, 1, 3);
        lost(x, 0, 0, 3, 0);
        lost(x, 0, -1, 1, 3);
        lost(x, -1, 0, 1, 0);
        lost(x, 1, 9, 0, 1);
        lost(x, 0, 0, -1, 0);
        lost(x, 0, GREATEST, 1, 3);
        lost(x, 0, LEAST, 1, 3);
    }

    private static void copied(TowerTell x, int k, int... due) {
        for (int i = 0; i < due.length; i++) {
            c.due("cell " + i, x.cell(k, i, 2), due[i]);
        }
    }

    private static void copy() {
        c.begin("25 copy");
        TowerTell x = new TowerTell();
        Checks.row(x, 0, 2, 1, 2, 3, 4, 5);
        Checks.row(x, 1, 2, 6, 7, 8);
        c.due("copy", x.copy(0, 3, 1, 1, 2), 2);
        copied(x, 1, 6, 4, 5);
        copied(x, 0, 1, 2, 3, 4, 5);
        c.due("onto itself, upwards, as they were", x.copy(0, 0, 0, 1, 4), 4);
        copied(x, 0, 1, 1, 2, 3, 4);
        c.due("onto itself, downwards", x.copy(0, 2, 0, 0, 3), 3);
        copied(x, 0, 2, 3, 4, 3, 4);
        c.due("none, at the ends", x.copy(0, 5, 1, 3, 0), 0);
        c.due("no SHEET", x.copy(4, 0, 3, 0, 0), TowerTell.UNKNOWN);
        c.due("no other SHEET", x.copy(3, 0, 4, 0, 0), TowerTell.UNKNOWN);
        c.due("no SHEET", x.copy(-1, 0, 0, 0, 0), TowerTell.UNKNOWN);
        c.due("no other SHEET", x.copy(0, 0, -1, 0, 0), TowerTell.UNKNOWN);
        c.due("nothing", x.copy(3, 9, 0, 9, 9), NULL);
        c.due("nothing in the other", x.copy(0, 9, 3, 9, 9), NULL);
        x.sheet(2, 1, 3);
        c.due("unlike LANES", x.copy(0, 9, 2, 9, 9), CAST);
        int[][] beyond = {{-1, 0, 1}, {0, -1, 1}, {0, 0, -1}, {6, 0, 0}, {0, 4, 0}, {4, 0, 2}, {0, 2, 2},
            {-1, 0, 0}, {0, -1, 0}, {1, 1, GREATEST}, {GREATEST, 0, GREATEST}, {LEAST, LEAST, LEAST}};
        for (int[] b : beyond) {
            c.due("INDEX", x.copy(0, b[0], 1, b[1], b[2]), INDEX);
            c.due("fault", x.fault(), 3);
        }
        copied(x, 1, 6, 4, 5);
    }

    private static void tellAndTrace() {
        c.begin("26 tell, 29 trace");
        TowerTell x = Checks.towerOf("u-3,p003,r002,a004");
        c.due("PERSON", x.tell(0), 3);
        c.due("trace", x.trace(), 1);
        c.due("PROUD", x.tell(1), 102);
        c.due("trace", x.trace(), (1 * 31 + 2) * 31 + 1);
        c.due("ABJECT", x.tell(2), 108);
        int due = 1024;
        for (int body : new int[] {3, 2, 1, 1}) {
            due = 31 * due + body;
        }
        c.due("trace", x.trace(), due);
        c.due("no PERSON", x.tell(3), TowerTell.UNKNOWN);
        c.due("no PERSON", x.tell(-1), TowerTell.UNKNOWN);
        c.due("trace is as it was", x.trace(), due);
        c.due("another TOWER", Checks.build(x, "u-3,p003"), 1);
        c.due("trace goes on", x.trace(), due);
        for (int turn = 0; turn < 9; turn++) {
            x.tell(0);
            due = 31 * due + 1;
        }
        c.due("it wraps", x.trace(), due);
    }

    private static void greet() {
        c.begin("27 greet");
        TowerTell x = Checks.towerOf("u-3,a003,r002,p004");
        c.due("ABJECT", x.greet(0), 80);
        c.due("trace", x.trace(), 5);
        c.due("PROUD", x.greet(1), 1);
        c.due("trace", x.trace(), 5 * 31 + 4);
        c.due("PERSON", x.greet(2), 2);
        c.due("trace", x.trace(), (5 * 31 + 4) * 31 + 4);
        c.due("no PERSON", x.greet(3), TowerTell.UNKNOWN);
        c.due("no PERSON", x.greet(-1), TowerTell.UNKNOWN);
        c.due("trace is as it was", x.trace(), (5 * 31 + 4) * 31 + 4);
    }

    private static void as() {
        c.begin("28 as");
        TowerTell x = Checks.towerOf("u-3,p003,r002,a004");
        for (int p = 0; p < 3; p++) {
            for (int kind = 0; kind < 3; kind++) {
                c.due("as", x.as(p, kind), kind <= p ? 1 : CAST);
                c.due("fault", x.fault(), kind <= p ? 0 : 2);
            }
            c.due("kind 3", x.as(p, 3), TowerTell.OUTSIDE);
            c.due("kind -1", x.as(p, -1), TowerTell.OUTSIDE);
            c.due("fault", x.fault(), 0);
            c.due("one's kind stays", x.ofPerson(p, 0), p);
        }
        c.due("no PERSON", x.as(3, 3), TowerTell.UNKNOWN);
        c.due("no PERSON", x.as(-1, 0), TowerTell.UNKNOWN);
    }

    private static void fault() {
        c.begin("30 fault");
        TowerTell x = Checks.towerOf(FOUR);
        c.due("none", x.fault(), 0);
        x.tower(0, 0, 0, -1);
        callAllThatNameNone(x);
        c.due("calls that name none leave it", x.fault(), 4);
        x.put(0, 0, 117);
        c.due("none was come to", x.fault(), 0);
        for (int call = 0; call < 20; call++) {
            x.tower(0, 1, 0, 1);
            c.due("CAST", x.fault(), 2);
            callWithoutFault(x, call);
            c.due("no FAULT by call " + call, x.fault(), 0);
        }
    }

    private static void callAllThatNameNone(TowerTell x) {
        x.ofPerson(0, 0);
        x.weight(9);
        x.weigh(0, 3);
        x.storeys(0, 0);
        x.say(0, 0);
        x.hush(0);
        x.landing(0);
        x.way(0, 3);
        x.kept(0, -1);
        x.roof(0);
        x.safe(0);
        x.reading(0, 0);
        x.back(1);
        x.odds(0, 0, 7);
        x.lose(3);
        x.tell(0);
        x.greet(0);
        x.trace();
        x.fault();
        x.many(0);
    }

    /** Calls that name FAULTS: refused with an even number, answered with an odd one. */
    private static void callWithoutFault(TowerTell x, int call) {
        switch (call) {
            case 0: x.tower(4, 0, 0, 0); break;
            case 1: x.tower(0, 0, 0, 29); break;
            case 2: x.days(0, 0, 0, 0, 3); break;
            case 3: x.days(0, 0, 0, 0, 0); break;
            case 4: x.weights(4, 0, 0, 0, 0); break;
            case 5: x.weights(0, 0, 0, 0, 0); break;
            case 6: x.kinds(0, 0, 3, 0, 0); break;
            case 7: x.kinds(0, 0, 0, 0, 0); break;
            case 8: x.knew(0, 0, 0, 0, 1); break;
            case 9: x.knew(0, 0, 0, 0, 0); break;
            case 10: x.sheet(0, 0, 61); break;
            case 11: x.sheet(1, 0, 1); break;
            case 12: x.put(4, 0, 0); break;
            case 13: x.put(1, 0, 0); break;
            case 14: x.cell(0, 0, 3); break;
            case 15: x.cell(0, 0, 0); break;
            case 16: x.copy(0, 0, 4, 0, 0); break;
            case 17: x.copy(0, 0, 0, 0, 1); break;
            case 18: x.as(0, 3); break;
            default: x.as(0, 0); break;
        }
    }

    private static void many() {
        c.begin("31 many");
        TowerTell x = Checks.towerOf("u-3-1-4,p003,r002");
        x.reading(0, 0);
        c.due("PEOPLE", x.many(0), 2);
        c.due("DEEDS", x.many(1), 3);
        c.due("READINGS", x.many(2), 1);
        c.due("what 3", x.many(3), TowerTell.OUTSIDE);
        c.due("what -1", x.many(-1), TowerTell.OUTSIDE);
    }
}
