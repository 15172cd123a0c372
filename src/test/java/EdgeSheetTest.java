/** The sentences about SHEETS and parts (promises 21 to 31) that name a boundary, each under its own words. */
public final class EdgeSheetTest {
    private static final int UNKNOWN = TowerTell.UNKNOWN, OUTSIDE = TowerTell.OUTSIDE;
    private static final int NULL = -11, CAST = -12, INDEX = -13, SIZE = -14;
    private static final int LEAST = Integer.MIN_VALUE, GREATEST = Integer.MAX_VALUE;
    private static final Checks c = new Checks();

    public static void main(String[] args) {
        sheetsZeroToThree();
        rowsOfZeroToSixtyNumbers();
        zeroAtFirst();
        aNewRowOfAnotherLane();
        loseSomethingAndNothing();
        cutToBytes();
        cutToShorts();
        intsAreNotCut();
        putFromFirstToLast();
        cellOfEachLane();
        copyOfNoneAndAll();
        copyToTheSame();
        copyOfEachLane();
        indexOfCopy();
        tellingOfEachKind();
        greetings();
        traceAtFirst();
        traceWraps();
        traceStays();
        asOneOfAKind();
        faultAheadOfAny();
        faultOfTheLatest();
        manyAtTheEnds();
        c.end("EdgeSheetTest");
    }

    private static void sheetsZeroToThree() {
        c.begin("SHEETS 0 .. 3");
        TowerTell x = new TowerTell();
        for (int k = -1; k <= 4; k++) {
            boolean isThere = k >= 0 && k <= 3;
            c.due("sheet " + k, x.sheet(k, 2, 1), isThere ? 1 : UNKNOWN);
            c.due("put " + k, x.put(k, 0, 10 + k), isThere ? 1 : UNKNOWN);
        }
        for (int k = -1; k <= 4; k++) {
            boolean isThere = k >= 0 && k <= 3;
            c.due("each has its own row", x.cell(k, 0, 2), isThere ? 10 + k : TowerTell.LOST);
            c.due("lose " + k, x.lose(k), isThere ? 1 : UNKNOWN);
        }
    }

    private static void rowsOfZeroToSixtyNumbers() {
        c.begin("a row of 0 .. 60 numbers; OUTSIDE: n above 60; SIZE");
        TowerTell x = new TowerTell();
        for (int n : new int[] {0, 1, 59, 60}) {
            c.due("n " + n, x.sheet(0, 0, n), 1);
            c.due("the last cell", x.put(0, n - 1, 5), n == 0 ? INDEX : 1);
            c.due("one behind it", x.put(0, n, 5), INDEX);
        }
        c.due("n 61", x.sheet(0, 0, 61), OUTSIDE);
        c.due("n very great", x.sheet(0, 0, GREATEST), OUTSIDE);
        c.due("n -1", x.sheet(0, 0, -1), SIZE);
        c.due("n very small", x.sheet(0, 0, LEAST), SIZE);
        c.due("the row is as it was", x.cell(0, 59, 0), 5);
    }

    private static void zeroAtFirst() {
        c.begin("numbers (0 at first)");
        for (int lane = 0; lane <= 2; lane++) {
            TowerTell x = new TowerTell();
            x.sheet(1, lane, 60);
            for (int i = 0; i < 60; i++) {
                c.due("at first", x.cell(1, i, lane), 0);
                x.put(1, i, 7);
            }
            x.sheet(1, lane, 2);
            x.sheet(1, lane, 60);
            for (int i = 0; i < 60; i++) {
                c.due("in a new row", x.cell(1, i, lane), 0);
                x.put(1, i, 7);
            }
            x.lose(1);
            x.sheet(1, lane, 60);
            for (int i = 0; i < 60; i++) {
                c.due("behind nothing", x.cell(1, i, lane), 0);
            }
        }
    }

    private static void aNewRowOfAnotherLane() {
        c.begin("A SHEET gets a new row: 1");
        TowerTell x = new TowerTell();
        for (int lane = 0; lane <= 2; lane++) {
            c.due("sheet", x.sheet(2, lane, 3), 1);
            for (int as = 0; as <= 2; as++) {
                c.due("as a row of " + as, x.cell(2, 2, as), as == lane ? 0 : TowerTell.LOST);
                c.due("CAST, or none", x.fault(), as == lane ? 0 : 2);
            }
        }
        c.due("no LANE", x.sheet(2, 3, 3), OUTSIDE);
        c.due("no LANE", x.sheet(2, -1, 3), OUTSIDE);
    }

    private static void loseSomethingAndNothing() {
        c.begin("A SHEET has nothing: 1; 0: it had nothing");
        TowerTell x = new TowerTell();
        for (int k = 0; k <= 3; k++) {
            c.due("nothing at first", x.lose(k), 0);
            x.sheet(k, 0, 0);
            c.due("a row of no cells is not nothing", x.lose(k), 1);
            c.due("nothing", x.lose(k), 0);
            c.due("NULL", x.put(k, 0, 0), NULL);
            x.cell(k, 0, 0);
            c.due("NULL", x.fault(), 1);
        }
        x.sheet(0, 0, 1);
        x.sheet(1, 0, 1);
        x.lose(0);
        c.due("another one stays", x.put(1, 0, 1), 1);
    }

    private static void comesTo(int lane, int v, long due) {
        TowerTell x = new TowerTell();
        x.sheet(0, lane, 1);
        c.due("put " + v, x.put(0, 0, v), 1);
        c.due(v + " becomes", x.cell(0, 0, lane), due);
    }

    private static void cutToBytes() {
        c.begin("what comes to a cell of it is cut to its LANE: bytes");
        int[][] due = {{0, 0}, {127, 127}, {128, -128}, {255, -1}, {256, 0}, {383, 127}, {384, -128}, {-1, -1},
            {-128, -128}, {-129, 127}, {-256, 0}, {-257, -1}, {32767, -1}, {32768, 0}, {GREATEST, -1}, {LEAST, 0}};
        for (int[] each : due) {
            comesTo(0, each[0], each[1]);
        }
    }

    private static void cutToShorts() {
        c.begin("what comes to a cell of it is cut to its LANE: shorts");
        int[][] due = {{0, 0}, {128, 128}, {-129, -129}, {32767, 32767}, {32768, -32768}, {65535, -1}, {65536, 0},
            {-1, -1}, {-32768, -32768}, {-32769, 32767}, {-65536, 0}, {-65537, -1}, {GREATEST, -1}, {LEAST, 0}};
        for (int[] each : due) {
            comesTo(1, each[0], each[1]);
        }
    }

    private static void intsAreNotCut() {
        c.begin("what comes to a cell of it is cut to its LANE: ints");
        for (int v : new int[] {0, 128, -129, 32768, -32769, 65536, GREATEST, LEAST}) {
            comesTo(2, v, v);
        }
    }

    private static void putFromFirstToLast() {
        c.begin("Cell i of a SHEET becomes v: 1");
        TowerTell x = new TowerTell();
        x.sheet(0, 1, 60);
        x.sheet(1, 1, 60);
        c.due("the first", x.put(0, 0, 5), 1);
        c.due("the last", x.put(0, 59, 6), 1);
        c.due("one behind it", x.put(0, 60, 7), INDEX);
        c.due("one ahead of the first", x.put(0, -1, 8), INDEX);
        for (int i = 0; i < 60; i++) {
            c.due("cell " + i, x.cell(0, i, 1), i == 0 ? 5 : i == 59 ? 6 : 0);
            c.due("of another SHEET", x.cell(1, i, 1), 0);
        }
    }

    private static void cellOfEachLane() {
        c.begin("Cell i of what a SHEET has, taken as a row of a LANE");
        TowerTell x = new TowerTell();
        for (int lane = 0; lane <= 2; lane++) {
            Checks.row(x, lane, lane, -1, -2, -3);
        }
        for (int k = 0; k <= 3; k++) {
            for (int lane = -1; lane <= 3; lane++) {
                for (int i = -1; i <= 3; i++) {
                    boolean isLane = lane >= 0 && lane <= 2;
                    boolean isThere = i >= 0 && i <= 2;
                    c.due("cell", x.cell(k, i, lane), k == lane && k < 3 && isThere ? -1 - i : TowerTell.LOST);
                    int fault = !isLane ? 0 : k == 3 ? 1 : k != lane ? 2 : isThere ? 0 : 3;
                    c.due("fault() of " + k + " " + i + " " + lane, x.fault(), fault);
                }
            }
        }
    }

    private static int[] numbers(int n) {
        int[] row = new int[n];
        for (int i = 0; i < n; i++) {
            row[i] = i + 1;
        }
        return row;
    }

    private static void has(TowerTell x, int k, int lane, int... due) {
        for (int i = 0; i < due.length; i++) {
            c.due("cell " + i, x.cell(k, i, lane), due[i]);
        }
    }

    private static void copyOfNoneAndAll() {
        c.begin("n cells of a SHEET from i on go to another one from j on: n");
        TowerTell x = new TowerTell();
        Checks.row(x, 0, 0, numbers(60));
        x.sheet(1, 0, 60);
        c.due("none", x.copy(0, 0, 1, 0, 0), 0);
        c.due("none, from and to the ends", x.copy(0, 60, 1, 60, 0), 0);
        has(x, 1, 0, new int[60]);
        c.due("all", x.copy(0, 0, 1, 0, 60), 60);
        has(x, 1, 0, numbers(60));
        has(x, 0, 0, numbers(60));
        c.due("the last to the first", x.copy(0, 59, 1, 0, 1), 1);
        c.due("it is there", x.cell(1, 0, 0), 60);
        c.due("no more than that", x.cell(1, 1, 0), 2);
        c.due("the first to the last", x.copy(0, 0, 1, 59, 1), 1);
        c.due("it is there", x.cell(1, 59, 0), 1);
        c.due("no more than that", x.cell(1, 58, 0), 59);
    }

    private static void copyToTheSame() {
        c.begin("(perhaps the same) .. as they were");
        TowerTell x = new TowerTell();
        Checks.row(x, 0, 2, numbers(6));
        c.due("upwards", x.copy(0, 0, 0, 1, 5), 5);
        has(x, 0, 2, 1, 1, 2, 3, 4, 5);
        Checks.row(x, 0, 2, numbers(6));
        c.due("downwards", x.copy(0, 1, 0, 0, 5), 5);
        has(x, 0, 2, 2, 3, 4, 5, 6, 6);
        Checks.row(x, 0, 2, numbers(6));
        c.due("by two, upwards", x.copy(0, 0, 0, 2, 4), 4);
        has(x, 0, 2, 1, 2, 1, 2, 3, 4);
        c.due("in place", x.copy(0, 0, 0, 0, 6), 6);
        has(x, 0, 2, 1, 2, 1, 2, 3, 4);
    }

    private static void copyOfEachLane() {
        c.begin("CAST (unlike LANES)");
        TowerTell x = new TowerTell();
        for (int from = 0; from <= 2; from++) {
            for (int to = 0; to <= 2; to++) {
                Checks.row(x, 0, from, -7);
                x.sheet(1, to, 1);
                c.due(from + " to " + to, x.copy(0, 0, 1, 0, 1), from == to ? 1 : CAST);
                c.due("the other", x.cell(1, 0, to), from == to ? -7 : 0);
            }
        }
    }

    private static void indexOfCopy() {
        c.begin("INDEX: i, j, n below 0 or beyond");
        TowerTell x = new TowerTell();
        x.sheet(0, 0, 3);
        x.sheet(1, 0, 2);
        for (int i = -1; i <= 4; i++) {
            for (int j = -1; j <= 3; j++) {
                for (int n = -1; n <= 4; n++) {
                    boolean isThere = i >= 0 && j >= 0 && n >= 0 && i + n <= 3 && j + n <= 2;
                    c.due("copy " + i + " " + j + " " + n, x.copy(0, i, 1, j, n), isThere ? n : INDEX);
                    c.due("fault()", x.fault(), isThere ? 0 : 3);
                }
            }
        }
    }

    private static void tellingOfEachKind() {
        c.begin("TELLING: whom one KNOWS; and 100; what PROUD's gives, and what PERSON's gives");
        for (int whom = 0; whom <= 4; whom++) {
            TowerTell x = Checks.towerOf("u-1,p00K,r00K,a00K".replace("K", "" + whom));
            c.due("PERSON", x.tell(0), whom);
            c.due("its bodies", x.trace(), 1);
            c.due("PROUD", x.tell(1), 100 + whom);
            c.due("its bodies", x.trace(), 31 * (31 * 1 + 2) + 1);
            c.due("ABJECT", x.tell(2), 100 + 2 * whom);
            int due = 31 * (31 * 1 + 2) + 1;
            for (int body : new int[] {3, 2, 1, 1}) {
                due = 31 * due + body;
            }
            c.due("its bodies", x.trace(), due);
        }
    }

    private static void greetings() {
        c.begin("GREETED by a lent body (4): one's number; ABJECT ones have their own (5): 80");
        String kinds = "pra";
        for (int kind = 0; kind <= 2; kind++) {
            TowerTell x = Checks.towerOf("u-1,K000,K001,K002,K003".replace('K', kinds.charAt(kind)));
            int due = 0;
            for (int p = 0; p < 4; p++) {
                c.due("GREETED", x.greet(p), kind == 2 ? 80 : p);
                due = 31 * due + (kind == 2 ? 5 : 4);
                c.due("by its body", x.trace(), due);
            }
        }
    }

    private static void traceAtFirst() {
        c.begin("TRACE (.. 0 at first)");
        TowerTell x = new TowerTell();
        c.due("a new object", x.trace(), 0);
        Checks.build(x, "u-1,p000");
        c.due("a TOWER leaves it", x.trace(), 0);
        x.tell(0);
        c.due("31 times 0, and 1", x.trace(), 1);
        c.due("it is told again", x.trace(), 1);
    }

    private static void traceWraps() {
        c.begin("TRACE (an int that wraps ..)");
        TowerTell x = Checks.towerOf("u-1,p000,a000");
        long whole = 0;
        boolean below = false;
        for (int turn = 0; turn < 60; turn++) {
            x.tell(0);
            whole = 31 * (int) whole + 1L;
            c.due("behind " + turn, x.trace(), (int) whole);
            x.greet(1);
            whole = 31 * (int) whole + 5L;
            c.due("behind " + turn, x.trace(), (int) whole);
            below |= x.trace() < 0;
        }
        c.due("it has been below 0", below ? 1 : 0, 1);
    }

    private static void traceStays() {
        c.begin("TRACE: bodies leave their number as they begin, and nothing else does");
        TowerTell x = Checks.towerOf("u-1,p000,a000");
        x.tell(1);
        int due = x.trace();
        x.tell(2);
        x.tell(-1);
        x.greet(2);
        x.greet(-1);
        c.due("refused calls", x.trace(), due);
        x.say(0, 0);
        x.as(1, 2);
        x.storeys(1, 0);
        x.ofPerson(1, 2);
        Checks.build(x, "u-1,p000,a000");
        c.due("other calls", x.trace(), due);
    }

    private static void asOneOfAKind() {
        c.begin("CAST: one is none (each is a PERSON, too; an ABJECT one is PROUD)");
        TowerTell x = Checks.towerOf("u-1,p000,r000,a000");
        for (int p = 0; p < 3; p++) {
            for (int kind = -1; kind <= 3; kind++) {
                boolean isKind = kind >= 0 && kind <= 2;
                c.due(p + " as " + kind, x.as(p, kind), !isKind ? OUTSIDE : kind <= p ? 1 : CAST);
                c.due("fault()", x.fault(), isKind && kind > p ? 2 : 0);
            }
        }
    }

    private static void faultAheadOfAny() {
        c.begin("(0 ahead of any)");
        TowerTell x = new TowerTell();
        c.due("a new object", x.fault(), 0);
        x.tell(0);
        x.landing(0);
        x.lose(0);
        c.due("behind calls that name none", x.fault(), 0);
    }

    private static void faultOfTheLatest() {
        c.begin("The FAULT of the latest call that names one: 0: it came to none, or was refused");
        TowerTell x = Checks.towerOf("u-1,p000");
        x.put(1, 0, 0);
        x.as(0, 1);
        c.due("of the latest of two", x.fault(), 2);
        x.as(0, 3);
        c.due("refused", x.fault(), 0);
        x.put(0, 8, 0);
        c.due("INDEX", x.fault(), 3);
        x.put(0, 7, 48);
        c.due("it came to none", x.fault(), 0);
        x.sheet(1, 0, -1);
        x.roof(0);
        x.odds(0, -1, 0);
        x.lose(4);
        x.many(3);
        c.due("calls that name none, refused or not, leave it", x.fault(), 4);
        x.tower(0, 0, 0, 7);
        c.due("a TEXT that is not taken is none", x.fault(), 0);
    }

    private static void manyAtTheEnds() {
        c.begin("How many: 0 PEOPLE, 1 DEEDS, 2 READINGS (0 all without a TOWER)");
        TowerTell x = new TowerTell();
        for (int what = 0; what <= 2; what++) {
            c.due("without a TOWER", x.many(what), 0);
        }
        Checks.build(x, "u-1,p000");
        c.due("the least PEOPLE", x.many(0), 1);
        c.due("the least DEEDS", x.many(1), 1);
        c.due("the least READINGS", x.many(2), 0);
        Checks.build(x, "u-1-1-1-1-1-1,p000,p000,p000,p000");
        for (int k = 0; k < 8; k++) {
            x.reading(0, 0);
        }
        c.due("the most PEOPLE", x.many(0), 4);
        c.due("the most DEEDS", x.many(1), 6);
        c.due("the most READINGS", x.many(2), 8);
        c.due("what -1", x.many(-1), OUTSIDE);
        c.due("what 3", x.many(3), OUTSIDE);
    }
}
