import java.util.Set;
import java.util.TreeSet;

/**
 * Every call that is refused or comes to a FAULT: what it answers, which of several reasons goes first, fault() behind
 * it, and that nothing else has changed.
 */
public final class RefusalTest {
    private static final int LEAST = Scene.LEAST, GREATEST = Scene.GREATEST;
    private static final int UNKNOWN = TowerTell.UNKNOWN, OUTSIDE = TowerTell.OUTSIDE;
    private static final int STATE = TowerTell.STATE, FULL = TowerTell.FULL;
    private static final int NULL = 1, CAST = 2, INDEX = 3, SIZE = 4;
    private static final int[] NO_SHEET = {-1, 4, LEAST, GREATEST};
    private static final int[] NO_LANE = {-1, 3, LEAST, GREATEST};
    private static final int[] BELOW_ZERO = {-1, LEAST};
    private static final Checks c = new Checks();
    private static final Set<Integer> refusing = new TreeSet<>();
    private static Scene scene;

    private interface Call {
        long on(TowerTell x);
    }

    private interface CallWith {
        long on(TowerTell x, int number);
    }

    public static void main(String[] args) {
        for (Scene each : Scene.values()) {
            scene = each;
            nobody();
            noDeed();
            noSheet();
        }
        tower();
        ofPerson();
        weigh();
        say();
        landing();
        days();
        daysPairs();
        wayAndKept();
        reading();
        back();
        guesses();
        odds();
        sheet();
        put();
        cell();
        copy();
        as();
        many();
        answeredWithoutChange();
        everyPromiseIsHere();
        c.end("RefusalTest");
    }

    /** Promise 1 refuses nothing, nor do trace() and fault(). */
    private static void everyPromiseIsHere() {
        c.begin("promises that refuse");
        for (int promise = 2; promise <= 28; promise++) {
            c.due("promise " + promise, refusing.contains(promise) ? 1 : 0, 1);
        }
        c.due("promise 31", refusing.contains(31) ? 1 : 0, 1);
    }

    private static void promise(int number, String name) {
        refusing.add(number);
        c.begin(number + " " + name + ", " + scene);
    }

    /** A call that names no FAULTS, and changes nothing: fault() stays. */
    private static void refused(String why, long due, Call call) {
        TowerTell x = scene.make();
        x.sheet(0, 0, -1);
        c.due(why, call.on(x), due);
        c.due(why + ": fault() stays", x.fault(), SIZE);
        c.due(why + ": nothing has changed", scene.isLeftBy(x) ? 1 : 0, 1);
    }

    /** A call that names FAULTS, comes to none, and changes nothing. */
    private static void refusedAheadOfFaults(String why, long due, Call call) {
        endsWith(why, due, 0, call);
    }

    private static void faulted(String why, int fault, Call call) {
        endsWith(why, -10 - fault, fault, call);
    }

    private static void endsWith(String why, long due, int fault, Call call) {
        TowerTell x = scene.make();
        // Another FAULT than the due one, so that one that is not told is seen.
        if (fault == SIZE) {
            x.put(Scene.NO_ROW, 0, 0);
        } else {
            x.sheet(0, 0, -1);
        }
        c.due(why, call.on(x), due);
        c.due(why + ": fault()", x.fault(), fault);
        c.due(why + ": nothing has changed", scene.isLeftBy(x) ? 1 : 0, 1);
    }

    private static void each(int[] numbers, String why, long due, CallWith call) {
        for (int number : numbers) {
            refused(why + " " + number, due, x -> call.on(x, number));
        }
    }

    private static void eachAheadOfFaults(int[] numbers, String why, long due, CallWith call) {
        for (int number : numbers) {
            refusedAheadOfFaults(why + " " + number, due, x -> call.on(x, number));
        }
    }

    private static void eachFaulted(int[] numbers, String why, int fault, CallWith call) {
        for (int number : numbers) {
            faulted(why + " " + number, fault, x -> call.on(x, number));
        }
    }

    // ---- UNKNOWN, in every scene, ahead of all else that is wrong with the call

    private static void nobody() {
        int[] nobody = scene.noPeople();
        promise(3, "ofPerson");
        each(nobody, "no PERSON", UNKNOWN, (x, p) -> x.ofPerson(p, 0));
        each(nobody, "no PERSON, what", UNKNOWN, (x, p) -> x.ofPerson(p, 5));
        promise(6, "storeys");
        each(nobody, "no PERSON", UNKNOWN, (x, p) -> x.storeys(p, 0));
        promise(7, "say");
        each(nobody, "no PERSON", UNKNOWN, (x, p) -> x.say(p, 0));
        promise(8, "hush");
        each(nobody, "no PERSON", UNKNOWN, (x, p) -> x.hush(p));
        promise(11, "way");
        each(nobody, "no PERSON", UNKNOWN, (x, p) -> x.way(p, 0));
        each(nobody, "no PERSON, f", UNKNOWN, (x, p) -> x.way(p, -1));
        promise(12, "kept");
        each(nobody, "no PERSON", UNKNOWN, (x, p) -> x.kept(p, 0));
        each(nobody, "no PERSON, f", UNKNOWN, (x, p) -> x.kept(p, -1));
        promise(13, "roof");
        each(nobody, "no PERSON", UNKNOWN, (x, p) -> x.roof(p));
        promise(14, "safe");
        each(nobody, "no PERSON", UNKNOWN, (x, p) -> x.safe(p));
        promise(15, "reading");
        each(nobody, "no PERSON (of FULL ones, too)", UNKNOWN, (x, p) -> x.reading(p, 0));
        each(nobody, "no PERSON, f", UNKNOWN, (x, p) -> x.reading(p, 100));
        promise(18, "kinds");
        eachAheadOfFaults(nobody, "no PERSON", UNKNOWN, (x, p) -> x.kinds(p, 1, 1, 0, 0));
        eachAheadOfFaults(nobody, "no PERSON, all else", UNKNOWN, (x, p) -> x.kinds(p, 4, 3, -1, 21));
        promise(19, "knew");
        eachAheadOfFaults(nobody, "no PERSON", UNKNOWN, (x, p) -> x.knew(p, 1, 1, 0, 0));
        eachAheadOfFaults(nobody, "no PERSON, all else", UNKNOWN, (x, p) -> x.knew(p, 4, 3, -1, 21));
        promise(20, "odds");
        each(nobody, "no PERSON", TowerTell.LOST, (x, p) -> x.odds(p, 0, 0));
        each(nobody, "no PERSON", TowerTell.LOST, (x, p) -> x.odds(p, 0, 1));
        promise(26, "tell");
        each(nobody, "no PERSON", UNKNOWN, (x, p) -> x.tell(p));
        promise(27, "greet");
        each(nobody, "no PERSON", UNKNOWN, (x, p) -> x.greet(p));
        promise(28, "as");
        eachAheadOfFaults(nobody, "no PERSON", UNKNOWN, (x, p) -> x.as(p, 0));
        eachAheadOfFaults(nobody, "no PERSON, kind", UNKNOWN, (x, p) -> x.as(p, 3));
    }

    private static void noDeed() {
        int[] noDeed = scene.noDeeds();
        promise(4, "weight");
        each(noDeed, "no DEED", UNKNOWN, (x, d) -> x.weight(d));
        promise(5, "weigh");
        each(noDeed, "no DEED", UNKNOWN, (x, d) -> x.weigh(d, 1));
        each(noDeed, "no DEED, v", UNKNOWN, (x, d) -> x.weigh(d, 0));
        promise(6, "storeys");
        each(noDeed, "no DEED", UNKNOWN, (x, d) -> x.storeys(0, d));
        promise(7, "say");
        each(noDeed, "no DEED", UNKNOWN, (x, d) -> x.say(0, d));
        promise(17, "weights");
        eachAheadOfFaults(noDeed, "no DEED", UNKNOWN, (x, d) -> x.weights(d, 1, 1, 0, 0));
        eachAheadOfFaults(noDeed, "no DEED, all else", UNKNOWN, (x, d) -> x.weights(d, 4, 3, -1, 21));
    }

    private static void noSheet() {
        promise(2, "tower");
        eachAheadOfFaults(NO_SHEET, "no SHEET", UNKNOWN, (x, k) -> x.tower(k, 0, 0, 0));
        eachAheadOfFaults(NO_SHEET, "no SHEET, all else", UNKNOWN, (x, k) -> x.tower(k, 3, -1, -1));
        promise(10, "days");
        eachAheadOfFaults(NO_SHEET, "no SHEET", UNKNOWN, (x, k) -> x.days(k, 0, 0, 0, 0));
        eachAheadOfFaults(NO_SHEET, "no SHEET, all else", UNKNOWN, (x, k) -> x.days(k, 3, -1, 21, 3));
        promise(17, "weights");
        eachAheadOfFaults(NO_SHEET, "no SHEET", UNKNOWN, (x, k) -> x.weights(0, k, 3, -1, 21));
        promise(18, "kinds");
        eachAheadOfFaults(NO_SHEET, "no SHEET", UNKNOWN, (x, k) -> x.kinds(0, k, 3, -1, 21));
        promise(19, "knew");
        eachAheadOfFaults(NO_SHEET, "no SHEET", UNKNOWN, (x, k) -> x.knew(0, k, 3, -1, 21));
        promise(21, "sheet");
        eachAheadOfFaults(NO_SHEET, "no SHEET", UNKNOWN, (x, k) -> x.sheet(k, 0, 1));
        eachAheadOfFaults(NO_SHEET, "no SHEET, lane, SIZE", UNKNOWN, (x, k) -> x.sheet(k, 3, -1));
        eachAheadOfFaults(NO_SHEET, "no SHEET, n", UNKNOWN, (x, k) -> x.sheet(k, 0, 61));
        promise(22, "lose");
        each(NO_SHEET, "no SHEET", UNKNOWN, (x, k) -> x.lose(k));
        promise(23, "put");
        eachAheadOfFaults(NO_SHEET, "no SHEET", UNKNOWN, (x, k) -> x.put(k, 0, 1));
        eachAheadOfFaults(NO_SHEET, "no SHEET, INDEX", UNKNOWN, (x, k) -> x.put(k, -1, 1));
        promise(24, "cell");
        eachAheadOfFaults(NO_SHEET, "no SHEET", TowerTell.LOST, (x, k) -> x.cell(k, 0, 0));
        promise(25, "copy");
        eachAheadOfFaults(NO_SHEET, "no SHEET", UNKNOWN, (x, k) -> x.copy(k, -1, 0, 0, 1));
        eachAheadOfFaults(NO_SHEET, "no SHEET, the other has nothing", UNKNOWN, (x, k) -> x.copy(k, 0, 3, 0, 0));
        eachAheadOfFaults(NO_SHEET, "no other SHEET", UNKNOWN, (x, k) -> x.copy(0, -1, k, 0, 1));
        eachAheadOfFaults(NO_SHEET, "no other SHEET, the first has nothing", UNKNOWN, (x, k) -> x.copy(3, 0, k, 0, 0));
        eachAheadOfFaults(NO_SHEET, "neither", UNKNOWN, (x, k) -> x.copy(k, 0, k, 0, 0));
    }

    // ---- 1 the tower

    private static void tower() {
        scene = Scene.TOWER;
        promise(2, "tower");
        int whole = Scene.TEXT.length();
        eachAheadOfFaults(NO_LANE, "lane", OUTSIDE, (x, lane) -> x.tower(0, lane, 0, whole));
        eachAheadOfFaults(NO_LANE, "lane, of nothing", OUTSIDE, (x, lane) -> x.tower(3, lane, -1, -1));
        for (int k = 0; k <= 2; k++) {
            int sheet = k;
            int one = (k + 1) % 3;
            int two = (k + 2) % 3;
            faulted("CAST of " + k, CAST, x -> x.tower(sheet, one, 0, 1));
            faulted("CAST of " + k + ", SIZE, INDEX", CAST, x -> x.tower(sheet, two, -1, -1));
            faulted("nothing is no CAST", NULL, x -> x.tower(3, sheet, 0, 0));
            faulted("NULL, SIZE, INDEX", NULL, x -> x.tower(3, sheet, -1, -1));
        }
        eachFaulted(BELOW_ZERO, "n", SIZE, (x, n) -> x.tower(0, 0, 0, n));
        eachFaulted(BELOW_ZERO, "n, INDEX", SIZE, (x, n) -> x.tower(0, 0, -1, n));
        eachFaulted(BELOW_ZERO, "n, INDEX beyond", SIZE, (x, n) -> x.tower(0, 0, GREATEST, n));
        int[] beyond = {-1, whole + 1, LEAST, GREATEST};
        eachFaulted(beyond, "no cell is taken, from", INDEX, (x, i) -> x.tower(0, 0, i, 0));
        eachFaulted(beyond, "cells from", INDEX, (x, i) -> x.tower(0, 0, i, whole));
        eachFaulted(beyond, "very many cells from", INDEX, (x, i) -> x.tower(0, 0, i, GREATEST));
        eachFaulted(new int[] {whole + 1, 61, GREATEST}, "n", INDEX, (x, n) -> x.tower(0, 0, 0, n));
        faulted("one more than there are from 1 on", INDEX, x -> x.tower(0, 0, 1, whole));
        faulted("one from the end on", INDEX, x -> x.tower(0, 0, whole, 1));
        towerNotTaken();
    }

    private static void towerNotTaken() {
        c.begin("2 tower, a TEXT that is not taken");
        int whole = Scene.TEXT.length();
        refusedAheadOfFaults("no code", -100, x -> x.tower(0, 0, 0, 0));
        refusedAheadOfFaults("no code, from the end on", -100, x -> x.tower(0, 0, whole, 0));
        refusedAheadOfFaults("the first code", -100, x -> x.tower(0, 0, 1, whole - 1));
        refusedAheadOfFaults("DEEDS alone", -113, x -> x.tower(0, 0, 0, 13));
        refusedAheadOfFaults("it ends too soon", -100 - (whole - 1), x -> x.tower(0, 0, 0, whole - 1));
        refusedAheadOfFaults("ints", -100, x -> x.tower(2, 2, 0, 5));
        scene = Scene.BARE;
        faulted("a new object", NULL, x -> x.tower(0, 0, 0, 0));
        scene = Scene.ROWS;
        refusedAheadOfFaults("it ends too soon, without a TOWER", -132, x -> x.tower(0, 0, 0, 32));
    }

    private static void ofPerson() {
        scene = Scene.TOWER;
        promise(3, "ofPerson");
        each(new int[] {-1, 5, LEAST, GREATEST}, "what", OUTSIDE, (x, what) -> x.ofPerson(3, what));
    }

    private static void weigh() {
        scene = Scene.TOWER;
        promise(5, "weigh");
        each(new int[] {0, 10, -1, LEAST, GREATEST}, "v", OUTSIDE, (x, v) -> x.weigh(5, v));
    }

    // ---- 2 tellings

    private static void say() {
        scene = Scene.TOWER;
        promise(7, "say");
        refused("TOLD already", STATE, x -> x.say(0, 0));
        refused("TOLD already, for no storey", STATE, x -> x.say(1, 1));
        refused("TOLD already, by another one", STATE, x -> x.say(3, 0));
    }

    private static void landing() {
        for (Scene each : new Scene[] {Scene.BARE, Scene.ROWS}) {
            scene = each;
            promise(9, "landing");
            each(new int[] {0, 1, GREATEST}, "no TOWER, f", STATE, (x, f) -> x.landing(f));
            each(BELOW_ZERO, "no TOWER goes ahead of f", STATE, (x, f) -> x.landing(f));
        }
        scene = Scene.TOWER;
        promise(9, "landing");
        each(BELOW_ZERO, "f", OUTSIDE, (x, f) -> x.landing(f));
    }

    private static void days() {
        for (Scene each : Scene.values()) {
            scene = each;
            promise(10, "days");
            eachAheadOfFaults(NO_LANE, "lane", OUTSIDE, (x, lane) -> x.days(1, lane, 0, 0, 0));
            eachAheadOfFaults(new int[] {-1, 21, LEAST, GREATEST, 1 << 30}, "n", OUTSIDE,
                    (x, n) -> x.days(1, 1, 0, n, 0));
            eachAheadOfFaults(new int[] {-1, 3, 9, 14, 19, 24, LEAST, GREATEST}, "what", OUTSIDE,
                    (x, what) -> x.days(1, 1, 0, 0, what));
            eachAheadOfFaults(NO_LANE, "lane, INDEX", OUTSIDE, (x, lane) -> x.days(1, lane, -1, 0, 0));
            eachAheadOfFaults(new int[] {-1, 21}, "n, NULL", OUTSIDE, (x, n) -> x.days(3, 1, 0, n, 0));
            eachAheadOfFaults(new int[] {-1, 3}, "what, CAST", OUTSIDE, (x, what) -> x.days(1, 2, 0, 0, what));
            faulted("NULL", NULL, x -> x.days(3, 0, 0, 0, 0));
            faulted("NULL, INDEX", NULL, x -> x.days(3, 2, -1, 20, 23));
            if (scene != Scene.BARE) {
                daysFaulted();
            }
        }
    }

    private static void daysFaulted() {
        faulted("CAST", CAST, x -> x.days(1, 0, 0, 0, 0));
        faulted("CAST, INDEX", CAST, x -> x.days(1, 2, -1, 20, 0));
        int[] beyond = {-1, 9, LEAST, GREATEST};
        eachFaulted(beyond, "no cell is taken, from", INDEX, (x, i) -> x.days(1, 1, i, 0, 0));
        eachFaulted(beyond, "20 pairs from", INDEX, (x, i) -> x.days(1, 1, i, 20, 0));
        faulted("one pair more than there are", INDEX, x -> x.days(1, 1, 0, 5, 0));
        faulted("half a pair is not there", INDEX, x -> x.days(1, 1, 7, 1, 0));
        faulted("half a pair of five cells is not there", INDEX, x -> x.days(2, 2, 0, 3, 0));
        if (scene == Scene.ROWS) {
            refusedAheadOfFaults("no TOWER", STATE, x -> x.days(1, 1, 0, 4, 0));
            refusedAheadOfFaults("no TOWER, no pair", STATE, x -> x.days(1, 1, 8, 0, 13));
            refusedAheadOfFaults("no TOWER goes ahead of the pairs", STATE, x -> x.days(2, 2, 0, 1, 0));
        }
    }

    private static void daysPairs() {
        for (Scene each : new Scene[] {Scene.FEW, Scene.TOWER, Scene.FULL}) {
            scene = each;
            promise(10, "days");
            refusedAheadOfFaults("far from a PERSON and a DEED", UNKNOWN, x -> x.days(2, 2, 0, 1, 0));
            refusedAheadOfFaults("the same, FIRST WRONG", UNKNOWN, x -> x.days(2, 2, 0, 1, 1));
            refusedAheadOfFaults("codes", UNKNOWN, x -> x.days(0, 0, 0, 2, 0));
        }
        scene = Scene.TOWER;
        promise(10, "days");
        for (int cell = 0; cell < 8; cell++) {
            for (int number : cell % 2 == 0 ? scene.noPeople() : scene.noDeeds()) {
                daysWithOneCell(cell, number);
            }
        }
    }

    /** Pairs of which one cell alone is no PERSON's, or no DEED's, number; the row stays as it then is. */
    private static void daysWithOneCell(int cell, int number) {
        int[] pairs = {0, 2, 3, 1, 1, 3, 2, 1};
        pairs[cell] = number;
        for (int what : new int[] {0, 1, 2, 10, 23}) {
            TowerTell x = scene.make();
            Checks.row(x, 3, 2, pairs);
            x.put(3, 8, 0);
            c.due("cell " + cell + " is " + number, x.days(3, 2, 0, 4, what), UNKNOWN);
            c.due("fault()", x.fault(), 0);
            x.lose(3);
            c.due("nothing has changed", scene.isLeftBy(x) ? 1 : 0, 1);
        }
    }

    // ---- 3 floors

    private static void wayAndKept() {
        scene = Scene.TOWER;
        promise(11, "way");
        each(BELOW_ZERO, "f", OUTSIDE, (x, f) -> x.way(0, f));
        promise(12, "kept");
        each(BELOW_ZERO, "f", OUTSIDE, (x, f) -> x.kept(0, f));
    }

    // ---- 4 who was where

    private static void reading() {
        for (Scene each : new Scene[] {Scene.TOWER, Scene.FULL}) {
            scene = each;
            promise(15, "reading");
            each(new int[] {-1, 100, LEAST, GREATEST}, "f (goes ahead of FULL)", OUTSIDE, (x, f) -> x.reading(3, f));
        }
        each(new int[] {0, 3, 99}, "FULL", FULL, (x, f) -> x.reading(0, f));
    }

    private static void back() {
        for (Scene each : Scene.values()) {
            scene = each;
            promise(16, "back");
            int readings = each == Scene.FULL ? 8 : each == Scene.TOWER ? 2 : 0;
            each(new int[] {-1, readings + 1, LEAST, GREATEST}, "k", OUTSIDE, (x, k) -> x.back(k));
        }
    }

    private static long guess(TowerTell x, int promise, int sheet, int lane, int i, int n) {
        switch (promise) {
            case 17: return x.weights(0, sheet, lane, i, n);
            case 18: return x.kinds(0, sheet, lane, i, n);
            default: return x.knew(0, sheet, lane, i, n);
        }
    }

    private static void guesses() {
        for (Scene each : new Scene[] {Scene.FEW, Scene.TOWER, Scene.FULL}) {
            scene = each;
            for (int promise = 17; promise <= 19; promise++) {
                guessRefused(promise);
            }
        }
    }

    private static void guessRefused(int of) {
        promise(of, "weights, kinds, knew");
        eachAheadOfFaults(NO_LANE, "lane", OUTSIDE, (x, lane) -> guess(x, of, 1, lane, 0, 0));
        eachAheadOfFaults(NO_LANE, "lane, NULL, INDEX", OUTSIDE, (x, lane) -> guess(x, of, 3, lane, -1, 0));
        int[] noLength = {-1, 21, LEAST, GREATEST, 1 << 30};
        eachAheadOfFaults(noLength, "n", OUTSIDE, (x, n) -> guess(x, of, 1, 1, 0, n));
        eachAheadOfFaults(noLength, "n, CAST, INDEX", OUTSIDE, (x, n) -> guess(x, of, 1, 0, -1, n));
        faulted("NULL", NULL, x -> guess(x, of, 3, 0, 0, 0));
        faulted("NULL, INDEX", NULL, x -> guess(x, of, 3, 2, -1, 20));
        faulted("CAST", CAST, x -> guess(x, of, 1, 0, 0, 0));
        faulted("CAST, INDEX", CAST, x -> guess(x, of, 1, 2, -1, 20));
        int[] beyond = {-1, 9, LEAST, GREATEST};
        eachFaulted(beyond, "no cell is taken, from", INDEX, (x, i) -> guess(x, of, 1, 1, i, 0));
        eachFaulted(beyond, "20 pairs from", INDEX, (x, i) -> guess(x, of, 1, 1, i, 20));
        faulted("one pair more than there are", INDEX, x -> guess(x, of, 1, 1, 0, 5));
        faulted("half a pair is not there", INDEX, x -> guess(x, of, 1, 1, 7, 1));
        refusedAheadOfFaults("far from a PERSON and a DEED", UNKNOWN, x -> guess(x, of, 2, 2, 0, 1));
        refusedAheadOfFaults("no PERSON in the second pair", UNKNOWN, x -> guess(x, of, 2, 2, 1, 2));
        refusedAheadOfFaults("codes", UNKNOWN, x -> guess(x, of, 0, 0, 1, 3));
    }

    private static void odds() {
        scene = Scene.TOWER;
        promise(20, "odds");
        for (int number = 0; number <= 1; number++) {
            int which = number;
            each(BELOW_ZERO, "f", TowerTell.LOST, (x, f) -> x.odds(0, f, which));
        }
        each(new int[] {-1, 2, LEAST, GREATEST}, "which", TowerTell.LOST, (x, which) -> x.odds(0, 0, which));
    }

    // ---- 5 sheets, parts

    private static void sheet() {
        for (Scene each : new Scene[] {Scene.BARE, Scene.TOWER}) {
            scene = each;
            promise(21, "sheet");
            for (int number = 0; number <= 3; number++) {
                int k = number;
                eachAheadOfFaults(NO_LANE, "lane", OUTSIDE, (x, lane) -> x.sheet(k, lane, 1));
                eachAheadOfFaults(NO_LANE, "lane, SIZE", OUTSIDE, (x, lane) -> x.sheet(k, lane, -1));
                eachAheadOfFaults(new int[] {61, GREATEST}, "n", OUTSIDE, (x, n) -> x.sheet(k, 0, n));
                eachFaulted(BELOW_ZERO, "n", SIZE, (x, n) -> x.sheet(k, 2, n));
            }
        }
    }

    private static void put() {
        scene = Scene.BARE;
        promise(23, "put");
        for (int number = 0; number <= 3; number++) {
            int k = number;
            eachFaulted(new int[] {0, -1, 60, GREATEST}, "nothing", NULL, (x, i) -> x.put(k, i, 1));
        }
        scene = Scene.TOWER;
        promise(23, "put");
        eachFaulted(new int[] {0, -1, 60, LEAST, GREATEST}, "nothing", NULL, (x, i) -> x.put(3, i, 1));
        int[] length = {Scene.TEXT.length(), 8, 5};
        for (int number = 0; number <= 2; number++) {
            int k = number;
            eachFaulted(new int[] {-1, length[k], LEAST, GREATEST}, "i", INDEX, (x, i) -> x.put(k, i, 1));
        }
    }

    private static void lost(String why, int fault, Call call) {
        endsWith(why, TowerTell.LOST, fault, call);
    }

    private static void cell() {
        scene = Scene.TOWER;
        promise(24, "cell");
        int[] length = {Scene.TEXT.length(), 8, 5};
        for (int number = 0; number <= 2; number++) {
            int k = number;
            for (int lane : NO_LANE) {
                lost("lane " + lane, 0, x -> x.cell(k, 0, lane));
                lost("lane " + lane + ", INDEX", 0, x -> x.cell(k, -1, lane));
                lost("lane " + lane + ", NULL", 0, x -> x.cell(3, 0, lane));
            }
            lost("CAST", CAST, x -> x.cell(k, 0, (k + 1) % 3));
            lost("CAST, INDEX", CAST, x -> x.cell(k, -1, (k + 2) % 3));
            lost("nothing is no CAST", NULL, x -> x.cell(3, 0, k));
            lost("NULL, INDEX", NULL, x -> x.cell(3, -1, k));
            for (int i : new int[] {-1, length[k], LEAST, GREATEST}) {
                lost("i " + i, INDEX, x -> x.cell(k, i, k));
            }
        }
    }

    private static void copy() {
        scene = Scene.BARE;
        promise(25, "copy");
        faulted("nothing in both", NULL, x -> x.copy(0, 0, 1, 0, 0));
        scene = Scene.TOWER;
        promise(25, "copy");
        faulted("nothing in the first", NULL, x -> x.copy(3, 0, 0, 0, 0));
        faulted("nothing in the other", NULL, x -> x.copy(0, 0, 3, 0, 0));
        faulted("nothing in the same", NULL, x -> x.copy(3, 0, 3, 0, 0));
        faulted("nothing in the first, INDEX", NULL, x -> x.copy(3, -1, 0, -1, -1));
        faulted("nothing in the other, INDEX", NULL, x -> x.copy(0, -1, 3, -1, -1));
        for (int number = 0; number <= 2; number++) {
            int k = number;
            faulted("unlike LANES", CAST, x -> x.copy(k, 0, (k + 1) % 3, 0, 1));
            faulted("unlike LANES, no cell", CAST, x -> x.copy(k, 0, (k + 2) % 3, 0, 0));
            faulted("unlike LANES, INDEX", CAST, x -> x.copy(k, -1, (k + 1) % 3, -1, -1));
        }
        int[][] beyond = {{-1, 0, 1}, {0, -1, 1}, {-1, 0, 0}, {0, -1, 0}, {6, 0, 0}, {0, 6, 0}, {5, 0, 1}, {0, 5, 1},
            {0, 0, 6}, {1, 0, 5}, {0, 1, 5}, {0, 0, -1}, {5, 5, -1}, {GREATEST, 0, 1}, {0, GREATEST, 1},
            {1, 0, GREATEST}, {0, 1, GREATEST}, {LEAST, 0, 1}, {0, LEAST, 1}, {0, 0, LEAST}, {GREATEST, 0, GREATEST},
            {LEAST, LEAST, LEAST}};
        for (int[] b : beyond) {
            faulted("i " + b[0] + ", j " + b[1] + ", n " + b[2], INDEX, x -> x.copy(2, b[0], 2, b[1], b[2]));
        }
    }

    private static void as() {
        scene = Scene.TOWER;
        promise(28, "as");
        for (int person = 0; person < 4; person++) {
            int p = person;
            eachAheadOfFaults(new int[] {-1, 3, LEAST, GREATEST}, "kind", OUTSIDE, (x, kind) -> x.as(p, kind));
        }
        faulted("a PERSON is no PROUD one", CAST, x -> x.as(0, 1));
        faulted("a PERSON is no ABJECT one", CAST, x -> x.as(0, 2));
        faulted("a PROUD one is no ABJECT one", CAST, x -> x.as(1, 2));
    }

    private static void many() {
        for (Scene each : Scene.values()) {
            scene = each;
            promise(31, "many");
            each(new int[] {-1, 3, LEAST, GREATEST}, "what", OUTSIDE, (x, what) -> x.many(what));
        }
    }

    // ---- calls that are answered, and change nothing all the same

    private static void answeredWithoutChange() {
        scene = Scene.TOWER;
        c.begin("nothing is changed by what is only asked");
        refused("landing", 0b1001, x -> x.landing(3));
        refused("way", 5, x -> x.way(0, 7));
        refused("kept", 5, x -> x.kept(0, 7));
        refused("roof", 7, x -> x.roof(0));
        refused("safe", 62, x -> x.safe(0));
        refused("odds", 1, x -> x.odds(0, 7, 0));
        refused("none is taken back", 2, x -> x.back(0));
        refused("it had nothing", 0, x -> x.lose(3));
        refused("the WEIGHT that it has", 3, x -> x.weigh(0, 3));
        refusedAheadOfFaults("days, CAUGHT", 0, x -> x.days(1, 1, 0, 4, 0));
        refusedAheadOfFaults("days, TOLD", 5, x -> x.days(1, 1, 0, 4, 20));
        refusedAheadOfFaults("days with a FIRST WRONG", -100, x -> x.days(1, 1, 1, 3, 0));
        refusedAheadOfFaults("weights", 1 << 3, x -> x.weights(0, 1, 1, 0, 4));
        refusedAheadOfFaults("kinds", 1, x -> x.kinds(0, 1, 1, 0, 4));
        refusedAheadOfFaults("knew", 31, x -> x.knew(3, 1, 1, 0, 4));
        refusedAheadOfFaults("no cells", 0, x -> x.copy(2, 5, 2, 0, 0));
        refusedAheadOfFaults("cells onto themselves", 5, x -> x.copy(2, 0, 2, 0, 5));
        refusedAheadOfFaults("as", 1, x -> x.as(2, 1));
        refusedAheadOfFaults("cell", GREATEST, x -> x.cell(2, 0, 2));
    }
}
