/** What tests of single calls share: the findings and KINDS by name, and short ways to make a cliff. */
abstract class IslandChecks {
    static final int BEYOND = -1000001;
    static final int FULL = -1000002;
    static final int KIND = -1000003;
    static final int NONE = -1000004;
    static final int STATE = -1000005;
    static final int MISSING = -1000006;
    static final int SIZE = -1000007;
    static final int LEAST = Integer.MIN_VALUE;
    static final int MOST = Integer.MAX_VALUE;

    static final int GOAT = 0;
    static final int NANNY = 1;
    static final int BILLY = 2;
    static final int GREY = 3;
    static final int OLD = 4;
    static final int WHITE = 5;
    static final int KID = 6;

    static String at = "";

    static void due(long got, long want) {
        Checks.due(at + " (line " + Thread.currentThread().getStackTrace()[2].getLineNumber() + ")", got, want);
    }

    static int goat(GoatShelves x, int kind, int ledge, int knows) {
        int g = x.goat(kind, ledge);
        x.change(g, 2, knows);
        return g;
    }

    static int text(GoatShelves x, String s) {
        for (int i = 0; i < s.length(); i++) {
            x.feed(s.charAt(i), 1);
        }
        return x.text();
    }

    static void sheet(GoatShelves x, int s, int bits, int... numbers) {
        x.sheet(s, bits, numbers.length);
        for (int i = 0; i < numbers.length; i++) {
            x.write(s, i, numbers[i]);
        }
    }

    static void bareRock(GoatShelves x) {
        x.set(0, 0);
        for (int l = 0; l < 12; l++) {
            x.grass(l, 0);
        }
    }
}
