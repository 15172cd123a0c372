/** What the tests share: counting wrong answers, and writing texts and rows on sheets. */
final class Checks {
    private int wrong;
    private int seen;
    private String promise = "";

    void begin(String name) {
        promise = name;
    }

    void due(String call, long got, long want) {
        seen++;
        if (got != want) {
            wrong++;
            System.out.println(promise + ": " + call + " answered " + got + ", due is " + want);
        }
    }

    void end(String test) {
        System.out.println(test + ": " + (seen - wrong) + " answers as due, " + wrong + " not as due");
        if (wrong != 0 || seen == 0) {
            System.exit(1);
        }
    }

    static void row(TowerTell x, int sheet, int lane, int... cells) {
        x.sheet(sheet, lane, cells.length);
        for (int i = 0; i < cells.length; i++) {
            x.put(sheet, i, cells[i]);
        }
    }

    static int[] codes(String text) {
        return text.chars().toArray();
    }

    static int build(TowerTell x, String text) {
        row(x, 0, 0, codes(text));
        return x.tower(0, 0, 0, text.length());
    }

    static TowerTell towerOf(String text) {
        TowerTell x = new TowerTell();
        if (build(x, text) < 1) {
            throw new IllegalArgumentException("no TEXT: " + text);
        }
        return x;
    }
}
