/**
 * The sentences under "Terms" that name a boundary and hold for several calls, each under its own words. That refused
 * and faulted calls change nothing, and which of several reasons goes first, is RefusalTest's.
 */
public final class EdgeTermsTest {
    private static final int NONE = TowerTell.NONE, INDEX = -13;
    private static final int MOST_CALLS = 512;
    private static final Checks c = new Checks();

    public static void main(String[] args) {
        the512thCall();
        numbersOfRefusals();
        numbersOfFaults();
        noCellFromTheEnds();
        noCellOfNoCells();
        aRowUpToItsEnd();
        setsUpToTheirLastNumber();
        lowerNumberIsAboveZero();
        leastTerms();
        c.end("EdgeTermsTest");
    }

    private static void the512thCall() {
        c.begin("An object is used for at most 512 calls after it has been made");
        TowerTell x = new TowerTell();
        String text = "u-9,p003";
        Checks.build(x, text);
        int due = 0;
        for (int calls = text.length() + 2; calls < MOST_CALLS - 1; calls++) {
            c.due("tell", x.tell(0), 3);
            due = 31 * due + 1;
        }
        c.due("the 512th call", x.trace(), due);
    }

    private static void numbersOfRefusals() {
        c.begin("REFUSALS: UNKNOWN, OUTSIDE, STATE, FULL; NONE is -9; LOST, where a long is answered");
        TowerTell x = Checks.towerOf("u-9,p013");
        c.due("UNKNOWN", x.weight(1), -1);
        c.due("OUTSIDE", x.weigh(0, 10), -2);
        x.say(0, 0);
        c.due("STATE", x.say(0, 0), -3);
        for (int k = 0; k < 8; k++) {
            x.reading(0, 9);
        }
        c.due("FULL", x.reading(0, 9), -4);
        c.due("NONE", x.way(0, 8), -9);
        c.due("LOST, as UNKNOWN", x.odds(1, 0, 0), Long.MIN_VALUE);
        c.due("LOST, as OUTSIDE", x.cell(0, 0, 3), Long.MIN_VALUE);
        c.due("LOST, as a FAULT", x.cell(0, 8, 0), Long.MIN_VALUE);
    }

    private static void numbersOfFaults() {
        c.begin("FAULTS: 1 NULL, 2 CAST, 3 INDEX, 4 SIZE; it answers -10 less it; fault() tells it");
        TowerTell x = Checks.towerOf("u-9,p013");
        c.due("NULL", x.put(1, 0, 0), -11);
        c.due("NULL", x.fault(), 1);
        c.due("CAST", x.as(0, 1), -12);
        c.due("CAST", x.fault(), 2);
        c.due("INDEX", x.put(0, 8, 0), -13);
        c.due("INDEX", x.fault(), 3);
        c.due("SIZE", x.sheet(0, 0, -1), -14);
        c.due("SIZE", x.fault(), 4);
        c.due("it is told again", x.fault(), 4);
    }

    private static void noCellFromTheEnds() {
        c.begin("INDEX (.. also where i is not 0 .. how many there are, if none of them is taken, too)");
        TowerTell x = Checks.towerOf("u-2,p010");
        Checks.row(x, 1, 1, 0, 0, 0);
        for (int i = -1; i <= 4; i++) {
            boolean isThere = i >= 0 && i <= 3;
            c.due("tower from " + i, x.tower(1, 1, i, 0), isThere ? -100 : INDEX);
            c.due("days from " + i, x.days(1, 1, i, 0, 1), isThere ? NONE : INDEX);
            c.due("weights from " + i, x.weights(0, 1, 1, i, 0), isThere ? 1022 : INDEX);
            c.due("kinds from " + i, x.kinds(0, 1, 1, i, 0), isThere ? 7 : INDEX);
            c.due("knew from " + i, x.knew(0, 1, 1, i, 0), isThere ? 31 : INDEX);
            c.due("copy from " + i, x.copy(1, i, 1, 0, 0), isThere ? 0 : INDEX);
            c.due("copy to " + i, x.copy(1, 0, 1, i, 0), isThere ? 0 : INDEX);
        }
    }

    private static void noCellOfNoCells() {
        c.begin("INDEX (.. if none of them is taken, too), of a row of 0 cells");
        TowerTell x = Checks.towerOf("u-2,p010");
        x.sheet(1, 1, 0);
        for (int i = -1; i <= 1; i++) {
            c.due("tower from " + i, x.tower(1, 1, i, 0), i == 0 ? -100 : INDEX);
            c.due("days from " + i, x.days(1, 1, i, 0, 2), i == 0 ? 0 : INDEX);
            c.due("weights from " + i, x.weights(0, 1, 1, i, 0), i == 0 ? 1022 : INDEX);
            c.due("kinds from " + i, x.kinds(0, 1, 1, i, 0), i == 0 ? 7 : INDEX);
            c.due("knew from " + i, x.knew(0, 1, 1, i, 0), i == 0 ? 31 : INDEX);
            c.due("copy from " + i, x.copy(1, i, 1, 0, 0), i == 0 ? 0 : INDEX);
            c.due("copy to " + i, x.copy(1, 0, 1, i, 0), i == 0 ? 0 : INDEX);
            c.due("put to " + i, x.put(1, i, 0), INDEX);
            c.due("cell " + i, x.cell(1, i, 1), TowerTell.LOST);
        }
    }

    private static void aRowUpToItsEnd() {
        c.begin("INDEX: not all cells are there");
        TowerTell x = Checks.towerOf("u-2-3,p030");
        Checks.row(x, 1, 0, 0, 0, 0, 1);
        c.due("all pairs", x.days(1, 0, 0, 2, 10), 5);
        c.due("one cell short", x.days(1, 0, 1, 2, 10), INDEX);
        c.due("the last pair", x.days(1, 0, 2, 1, 10), 3);
        c.due("one cell short", x.days(1, 0, 3, 1, 10), INDEX);
        x.reading(0, 3);
        c.due("the last pair", x.weights(1, 1, 0, 2, 1), 1 << 3);
        c.due("one cell short", x.weights(1, 1, 0, 3, 1), INDEX);
        String text = "u-1-2-3-4-5-9,p630,r591,a012,p604";
        x.sheet(2, 2, 60);
        for (int at = 0; at < text.length(); at++) {
            x.put(2, 60 - text.length() + at, text.charAt(at));
        }
        c.due("one cell short", x.tower(2, 2, 28, 33), INDEX);
        c.due("the longest TEXT, at the end of the longest row", x.tower(2, 2, 27, 33), 4);
    }

    private static void setsUpToTheirLastNumber() {
        c.begin("Sets are told as bits (bit k for number k)");
        TowerTell x = Checks.towerOf("u-1-1-1-1-1-9,p324,p004,p004,a324");
        c.due("DONE, DEED 5", x.ofPerson(0, 1), 32);
        x.say(3, 5);
        c.due("TOLD, DEED 5", x.ofPerson(3, 3), 32);
        c.due("PERSON 3", x.landing(18), 8);
        c.due("PEOPLE 0 .. 2", x.landing(0), 7);
        c.due("way", x.way(3, 18), 32);
        c.due("kept", x.kept(3, 18), 32);
        c.due("safe", x.safe(3), 31);
        x.sheet(1, 0, 0);
        x.reading(3, 18);
        c.due("WEIGHT 9", x.weights(5, 1, 0, 0, 0), 512);
        c.due("ABJECT", x.kinds(3, 1, 0, 0, 0), 4);
        c.due("KNOWS 0 .. 4", x.knew(3, 1, 0, 0, 0), 31);
        x.hush(3);
        Checks.row(x, 1, 0, 3, 5);
        c.due("TOLD by DAYS", x.days(1, 0, 0, 1, 23), 32);
    }

    private static void share(TowerTell x, int p, int f, int upper, int lower) {
        c.due("upper number of " + p + " for " + f, x.odds(p, f, 0), upper);
        c.due("lower number of " + p + " for " + f, x.odds(p, f, 1), lower);
    }

    private static void lowerNumberIsAboveZero() {
        c.begin("Shares are told as upper and lower number (above 0)");
        TowerTell x = Checks.towerOf("u-2-2,p000,p030");
        share(x, 0, 0, 1, 1);
        share(x, 0, 1, 0, 1);
        share(x, 0, Integer.MAX_VALUE, 0, 1);
        share(x, 1, 5, 0, 1);
    }

    private static void leastTerms() {
        c.begin("Shares .. in least terms");
        TowerTell x = Checks.towerOf("u-1-1-1-1-1-1,p630,r630");
        int[][] due = {{1, 1}, {63, 64}, {57, 64}, {21, 32}, {11, 32}, {7, 64}, {1, 64}, {0, 1}};
        for (int f = 0; f < due.length; f++) {
            share(x, 0, f, due[f][0], due[f][1]);
        }
        share(x, 1, 0, 1, 1);
        share(x, 1, 1, 0, 1);
    }
}
