import java.util.ArrayList;
import java.util.List;

/** That findings are told in the order of an act's words, and that a refused call changes nothing but status(). */
final class RefusedEdges extends Edges {
    /** Acts in the order of their promises, 2 first. */
    private static final String[] ACTS = {
        "grass", "ledge", "set", "goat", "of", "change", "birth", "ask", "go", "now", "who", "ahead", "learns", "lost", "meet",
        "reach", "put", "kindFor", "growsFor", "cover", "price", "censor", "kinds", "fits", "slips", "odds", "seed", "feed",
        "wipe", "text", "hold", "as", "sheet", "write", "copy", "load", "judge", "image", "undo", "tear", "count", "status"};

    private RefusedEdges() {
    }

    static void all() {
        order();
        ordinary();
        full();
        bare();
    }

    /** Calls that could be refused for two reasons or more: the one that comes first in the promise's words is told. */
    private static void order() {
        term(43, "Each act tells its findings in the order in which they are asked (that of its words);");
        GoatShelves x = island();
        crowd(x, GREY, 0);
        for (int i = x.count(5); i < 120; i++) {
            x.feed(0, 1);
        }
        x.set(1, 0);
        due(x.goat(7, 0), BEYOND);
        due(x.goat(0, 12), BEYOND);
        due(x.birth(8), BEYOND);
        due(x.ask(16), BEYOND);
        due(x.ask(14), NONE);
        due(x.ask(0), STATE);
        due(x.growsFor(16, 0), BEYOND);
        due(x.cover(65536), BEYOND);
        due(x.price(-1), BEYOND);
        due(x.kinds(4, 8), BEYOND);
        due(x.kinds(3, 8), MISSING);
        due(x.kinds(0, 8), BEYOND);
        due(x.fits(4, 8), BEYOND);
        due(x.fits(3, 8), MISSING);
        due(x.fits(0, 8), BEYOND);
        due(x.feed(0, 5), BEYOND);
        due(x.feed(0, 1), FULL);
        due(x.as(10, KID), BEYOND);
        due(x.as(3, 7), BEYOND);
        due(x.as(3, KID), MISSING);
        due(x.as(2, KID), KIND);
        due(x.sheet(4, 8, -1), BEYOND);
        due(x.sheet(0, 7, -1), BEYOND);
        due(x.sheet(0, 8, -1), SIZE);
        due(x.sheet(0, 0, -1), SIZE);
        due(x.sheet(0, 0, 41), BEYOND);
        due(x.write(4, 40, 0), BEYOND);
        due(x.write(3, 40, 0), MISSING);
        due(x.write(0, 40, 0), BEYOND);
        due(x.copy(4, -1, 3, -1, -1), BEYOND);
        due(x.copy(3, -1, 4, -1, -1), BEYOND);
        due(x.copy(3, -1, 0, -1, -1), MISSING);
        due(x.copy(0, -1, 3, -1, -1), MISSING);
        due(x.copy(0, -1, 1, -1, -1), KIND);
        due(x.copy(0, -1, 0, -1, -1), BEYOND);
        dueCounts(x, 22, 1, 2, 1, 1, 6, 2);
    }

    /** GOATS, SPOTS, SHEETS, THE TAPE, an image that isn't what is now: all that a call could change is there. */
    private static GoatShelves island() {
        GoatShelves x = new GoatShelves();
        goat(x, NANNY, 2, 0x8005);
        x.image();
        goat(x, GREY, 5, 0x0102);
        goat(x, OLD, 9, 0x0010);
        for (int g = 0; g < 3; g++) {
            x.change(g, 3, 20 + g);
            x.change(g, 4, 40 + g);
            x.change(g, 5, 60 + g);
            x.hold(g, g);
        }
        x.set(0, 3);
        x.seed(77);
        x.grass(5, 6);
        sheet(x, 0, 8, 5, 6, 7);
        sheet(x, 1, 16, 40, 41);
        sheet(x, 2, 32, 99);
        for (char c : "salt 71;grows 8;grass 3 4".toCharArray()) {
            x.feed(c, 1);
        }
        return x;
    }

    private static GoatShelves crowded() {
        GoatShelves x = island();
        crowd(x, KID, 1);
        x.set(1, 1);
        x.tear();
        for (int i = x.count(5); i < 119; i++) {
            x.feed(' ', 1);
        }
        return x;
    }

    private static GoatShelves made(int which) {
        return which == 0 ? island() : which == 1 ? crowded() : new GoatShelves();
    }

    private static void refused(int which, int finding, String name, int... args) {
        int promise = 2 + List.of(ACTS).indexOf(name);
        Call call = new Call(name, args);
        term(promise, "one that answers a finding changes nothing but status().");
        at += ", by " + call;
        GoatShelves x = made(which);
        due(x.status(-1), 0);
        due(call.on(x), finding);
        int[] counts = new int[7];
        counts[BEYOND - finding] = 1;
        dueCounts(x, counts);
        due(seen(x).equals(seen(made(which))) ? 1 : 0, 1);
    }

    /** All that can be seen of an object but status(); it is spoilt by that. */
    private static List<Integer> seen(GoatShelves x) {
        List<Integer> all = new ArrayList<>();
        seeIsland(x, all);
        for (int s = 0; s < 4; s++) {
            all.add(x.load(s));
            for (int l = 0; l < 12; l++) {
                all.add(x.ledge(l, 0));
            }
            // What comes of these numbers tells how many bits there are.
            all.add(x.write(s, 0, 300));
            all.add(x.load(s));
            all.add(x.ledge(0, 0));
            all.add(x.write(s, 0, 65536 + 9));
            all.add(x.load(s));
            all.add(x.ledge(0, 0));
        }
        all.add(x.text());
        all.add(x.count(3));
        all.add(x.ledge(3, 0));
        all.add(x.undo());
        seeIsland(x, all);
        all.add(x.tear());
        return all;
    }

    private static void seeIsland(GoatShelves x, List<Integer> all) {
        for (int what = 0; what < 8; what++) {
            all.add(x.count(what));
        }
        for (int l = 0; l < 12; l++) {
            all.add(x.ledge(l, 0));
        }
        int goats = x.count(1);
        for (int g = 0; g < goats; g++) {
            for (int what = 0; what < 6; what++) {
                all.add(x.of(g, what));
            }
        }
        for (int spot = 0; spot < 10; spot++) {
            all.add(x.as(spot, GOAT));
        }
        int grows = x.set(0, 0);
        x.set(0, grows);
        all.add(grows);
    }

    private static void ordinary() {
        int[][] two = {{-1, 0}, {12, 0}, {0, -1}, {0, 100}};
        for (int[] a : two) {
            refused(0, BEYOND, "grass", a);
        }
        refused(0, BEYOND, "ledge", 12, 0);
        refused(0, BEYOND, "ledge", 0, 3);
        refused(0, BEYOND, "set", 0, 21);
        refused(0, BEYOND, "set", 1, 10000);
        refused(0, BEYOND, "set", 2, 0);
        refused(0, BEYOND, "goat", 7, 0);
        refused(0, BEYOND, "goat", 0, 12);
        refused(0, BEYOND, "of", 3, 0);
        refused(0, BEYOND, "of", 0, 10);
        refused(0, BEYOND, "change", 3, 0, 0);
        int[] most = {6, 11, 65535, 9999, 99, 9999};
        for (int what = 0; what < 6; what++) {
            refused(0, BEYOND, "change", 0, what, most[what] + 1);
            refused(0, BEYOND, "change", 0, what, -1);
        }
        refused(0, BEYOND, "change", 0, 6, 0);
        refused(0, BEYOND, "birth", 3);
        refused(0, BEYOND, "ask", 16);
        refused(0, NONE, "ask", 14);
        refused(0, BEYOND, "go", 0);
        refused(0, BEYOND, "go", 61);
        refused(0, BEYOND, "now", 7);
        refused(0, BEYOND, "who", 16);
        refused(0, BEYOND, "ahead", 3, 1, 1);
        refused(0, BEYOND, "ahead", 0, 5, 1);
        refused(0, BEYOND, "ahead", 0, 1, 101);
        refused(0, BEYOND, "learns", 3, 0);
        refused(0, NONE, "learns", 0, 14);
        refused(0, BEYOND, "lost", 16);
        refused(0, BEYOND, "meet", 0, 0);
        refused(0, NONE, "reach", 1, 0);
        refused(0, BEYOND, "reach", 0, 12);
        refused(0, BEYOND, "put", 0, 41);
        refused(0, BEYOND, "kindFor", 0, 41);
        refused(0, BEYOND, "growsFor", 0, 41);
        refused(0, NONE, "growsFor", 14, 40);
        refused(0, BEYOND, "cover", 65536);
        refused(0, NONE, "cover", 65535);
        refused(0, BEYOND, "price", 65536);
        refused(0, NONE, "price", 65535);
        refused(0, BEYOND, "censor", 0, 13);
        sheetsAndSpots();
    }

    private static void sheetsAndSpots() {
        refused(0, BEYOND, "kinds", 4, 0);
        refused(0, MISSING, "kinds", 3, 0);
        refused(0, BEYOND, "kinds", 0, 3);
        refused(0, BEYOND, "fits", 4, 0);
        refused(0, MISSING, "fits", 3, 0);
        refused(0, BEYOND, "fits", 0, 3);
        refused(0, BEYOND, "slips", 0);
        refused(0, BEYOND, "slips", 21);
        refused(0, BEYOND, "odds", 16, 0);
        refused(0, BEYOND, "odds", 0, 2);
        refused(0, BEYOND, "feed", 0, 0);
        refused(0, BEYOND, "feed", 0, 5);
        refused(0, BEYOND, "hold", 10, 0);
        refused(0, BEYOND, "hold", 0, 3);
        refused(0, BEYOND, "hold", 0, -2);
        refused(0, BEYOND, "as", 10, 0);
        refused(0, MISSING, "as", 3, 0);
        refused(0, KIND, "as", 0, KID);
        refused(0, BEYOND, "sheet", 4, 8, 1);
        refused(0, BEYOND, "sheet", 0, 9, 1);
        refused(0, SIZE, "sheet", 0, 0, -1);
        refused(0, SIZE, "sheet", 0, 8, -1);
        refused(0, BEYOND, "sheet", 0, 0, 41);
        refused(0, BEYOND, "sheet", 0, 8, 41);
        refused(0, BEYOND, "write", 4, 0, 1);
        refused(0, MISSING, "write", 3, 0, 1);
        refused(0, BEYOND, "write", 0, 3, 1);
        refused(0, BEYOND, "copy", 0, 0, 4, 0, 1);
        refused(0, MISSING, "copy", 0, 0, 3, 0, 1);
        refused(0, KIND, "copy", 0, 0, 1, 0, 1);
        refused(0, BEYOND, "copy", 0, 0, 0, 1, 3);
        refused(0, BEYOND, "load", 4);
        refused(0, MISSING, "load", 3);
        refused(0, BEYOND, "judge", 4);
        refused(0, MISSING, "judge", 3);
        refused(0, BEYOND, "count", 8);
        refused(0, BEYOND, "status", 7);
    }

    private static void full() {
        refused(1, FULL, "goat", 0, 0);
        refused(1, FULL, "birth", 0);
        refused(1, STATE, "ask", 0);
        refused(1, FULL, "feed", ';', 2);
        refused(1, NONE, "undo");
        refused(1, BEYOND, "meet", 8, 0);
        refused(1, BEYOND, "change", 8, 0, 0);
    }

    private static void bare() {
        refused(2, NONE, "ask", 0);
        refused(2, NONE, "undo");
        refused(2, NONE, "cover", 1);
        refused(2, NONE, "price", 1);
        refused(2, NONE, "growsFor", 0, 0);
        refused(2, BEYOND, "hold", 0, 0);
        refused(2, BEYOND, "birth", 0);
        refused(2, MISSING, "as", 0, 0);
        refused(2, MISSING, "copy", 0, 0, 1, 0, 0);
        // STATE of go() and slips() lies behind call 512: that the DAY stays is seen in DayEdges and PlanEdges.
    }
}
