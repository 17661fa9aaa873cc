/** Sentences of promises 1 to 9: ledges, goats. */
final class LedgeEdges extends Edges {
    private LedgeEdges() {
    }

    static void all() {
        newObject();
        grass();
        ledge();
        set();
        goat();
        of();
        change();
        birth();
        birthRefused();
        ask();
        askRefused();
    }

    private static void newObject() {
        sentence(1, "All as at first; no GOATS; THE TAPE is empty, no image is kept.");
        new GoatShelves().go(60);
        GoatShelves x = new GoatShelves();
        int[] counts = {0, 0, 0, 50, 240, 0, 1, 0};
        int[] nows = {0, 0, 65535, 240, 0, 0, -1};
        for (int what = 0; what < 8; what++) {
            due(x.count(what), counts[what]);
        }
        for (int what = 0; what < 7; what++) {
            due(x.now(what), nows[what]);
        }
        for (int l = 0; l < 12; l++) {
            due(x.ledge(l, 0), 20);
            due(x.ledge(l, 1), 0);
            due(x.ledge(l, 2), 0);
        }
        due(x.wipe(), 0);
        due(x.tear(), 0);
        due(x.set(0, 2), 2);
        due(x.seed(1), 1);
        due(x.status(-1), 0);
        due(x.of(0, 0), BEYOND);
        due(x.undo(), NONE);
        for (int s = 0; s < 4; s++) {
            due(x.judge(s), MISSING);
        }
        due(x.as(0, GOAT), MISSING);
        due(x.as(9, GOAT), MISSING);
        dueCounts(x, 1, 0, 0, 1, 0, 6, 0);
        dueCounts(new GoatShelves(), 0, 0, 0, 0, 0, 0, 0);
    }

    private static void grass() {
        sentence(2, "GRASS of a LEDGE becomes v: what it was.");
        GoatShelves x = new GoatShelves();
        due(x.grass(0, 0), 20);
        due(x.grass(0, 99), 0);
        due(x.grass(11, 99), 20);
        due(x.grass(11, 0), 99);
        due(x.grass(11, 0), 0);
        due(x.now(3), 99 + 200);
        sentence(2, "BEYOND.");
        int[] ledges = {LEAST, -1, 12, MOST};
        int[] grasses = {LEAST, -1, 100, MOST};
        for (int i = 0; i < 4; i++) {
            due(x.grass(ledges[i], 5), BEYOND);
            due(x.grass(5, grasses[i]), BEYOND);
            due(x.grass(ledges[i], grasses[i]), BEYOND);
        }
        due(x.now(3), 99 + 200);
        dueCounts(x, 12, 0, 0, 0, 0, 0, 0);
    }

    private static void ledge() {
        sentence(3, "Of a LEDGE: what 0 GRASS, 1 GOATS ON it, as a set, 2 PAGES that these KNOW, as a set.");
        GoatShelves x = new GoatShelves();
        for (int what = 0; what < 3; what++) {
            due(x.ledge(0, what), what == 0 ? 20 : 0);
            due(x.ledge(11, what), what == 0 ? 20 : 0);
        }
        for (int g = 0; g < 8; g++) {
            goat(x, KID, 11, 1 << 15 - g);
        }
        due(x.ledge(11, 1), 255);
        due(x.ledge(11, 2), 0xFF00);
        due(x.ledge(10, 1), 0);
        due(x.ledge(10, 2), 0);
        x.change(7, 1, 0);
        due(x.ledge(0, 1), 128);
        due(x.ledge(0, 2), 0x0100);
        due(x.ledge(11, 2), 0xFE00);
        sentence(3, "BEYOND.");
        int[] ledges = {LEAST, -1, 12, MOST};
        int[] whats = {LEAST, -1, 3, MOST};
        for (int i = 0; i < 4; i++) {
            due(x.ledge(ledges[i], 0), BEYOND);
            due(x.ledge(0, whats[i]), BEYOND);
            due(x.ledge(ledges[i], whats[i]), BEYOND);
        }
        dueCounts(x, 12, 0, 0, 0, 0, 0, 0);
    }

    private static void set() {
        sentence(4, "GROWS (what 0), SALT (1) becomes v: what it was.");
        GoatShelves x = new GoatShelves();
        due(x.set(0, 0), 2);
        due(x.set(0, 20), 0);
        due(x.set(0, 20), 20);
        due(x.set(1, 0), 50);
        due(x.set(1, 9999), 0);
        due(x.set(1, 9999), 9999);
        sentence(4, "BEYOND.");
        int[] whats = {LEAST, -1, 2, MOST};
        for (int what : whats) {
            due(x.set(what, 1), BEYOND);
        }
        int[] values = {LEAST, -1, 21, MOST};
        for (int v : values) {
            due(x.set(0, v), BEYOND);
        }
        values[2] = 10000;
        for (int v : values) {
            due(x.set(1, v), BEYOND);
        }
        due(x.set(0, 1), 20);
        due(x.set(1, 21), 9999);
        due(x.set(0, 21), BEYOND);
        dueCounts(x, 13, 0, 0, 0, 0, 0, 0);
    }

    private static void goat() {
        sentence(5, "A new GOAT ON a LEDGE: its number.");
        GoatShelves x = new GoatShelves();
        due(x.goat(GOAT, 0), 0);
        due(x.goat(KID, 11), 1);
        int[] first = {KID, 11, 0, 0, 30, 0};
        for (int what = 0; what < 6; what++) {
            due(x.of(1, what), first[what]);
        }
        // What a GOAT was that undo() took away doesn't come back with its number.
        x.image();
        x.goat(OLD, 4);
        for (int what = 0; what < 6; what++) {
            x.change(2, what, 6);
        }
        x.undo();
        due(x.goat(KID, 11), 2);
        for (int what = 0; what < 6; what++) {
            due(x.of(2, what), first[what]);
        }
        sentence(5, "BEYOND.");
        int[] kinds = {LEAST, -1, 7, MOST};
        int[] ledges = {LEAST, -1, 12, MOST};
        for (int i = 0; i < 4; i++) {
            due(x.goat(kinds[i], 0), BEYOND);
            due(x.goat(0, ledges[i]), BEYOND);
        }
        due(x.count(1), 3);
        sentence(5, "FULL.");
        crowd(x, GREY, 5);
        due(x.goat(GOAT, 0), FULL);
        due(x.goat(KID, 11), FULL);
        due(x.goat(7, 0), BEYOND);
        due(x.goat(0, 12), BEYOND);
        due(x.count(1), 8);
        dueCounts(x, 10, 2, 0, 0, 0, 0, 0);
    }

    private static void of() {
        sentence(6, "Of a GOAT: what 0 KIND, 1 LEDGE, 2 KNOWS, 3 AGE, 4 FED, 5 ASKED, 6 COSTS, 7 GRAZES, 8 the LEDGE to which "
            + "it would CLIMB now, 9 PAGES that it QUOTES now, as a set.");
        GoatShelves x = new GoatShelves();
        crowd(x, KID, 3);
        int[] to = {NANNY, 10, 0x8003, 7, 9, 8};
        for (int what = 0; what < 6; what++) {
            x.change(7, what, to[what]);
        }
        x.grass(11, 21);
        int[] all = {NANNY, 10, 0x8003, 7, 9, 8, 12, 7, 11, 0};
        for (int what = 0; what < 10; what++) {
            due(x.of(7, what), all[what]);
        }
        due(x.of(0, 0), KID);
        x.change(7, 4, 10);
        due(x.of(7, 9), 0x8003);
        due(x.of(7, 1), 10);
        sentence(6, "BEYOND.");
        int[] goats = {LEAST, -1, 8, MOST};
        int[] whats = {LEAST, -1, 10, MOST};
        for (int i = 0; i < 4; i++) {
            due(x.of(goats[i], 0), BEYOND);
            due(x.of(7, whats[i]), BEYOND);
        }
        // A number below 8 isn't enough: there must be such a GOAT.
        GoatShelves y = new GoatShelves();
        for (int what = 0; what < 10; what++) {
            due(y.of(0, what), BEYOND);
        }
        y.goat(GOAT, 0);
        due(y.of(0, 9), 0);
        due(y.of(1, 9), BEYOND);
        dueCounts(y, 11, 0, 0, 0, 0, 0, 0);
    }

    private static void change() {
        sentence(7, "KIND (what 0), LEDGE (1), KNOWS (2), AGE (3), FED (4), ASKED (5) of a GOAT becomes v: what it was.");
        GoatShelves x = new GoatShelves();
        x.goat(OLD, 4);
        x.goat(OLD, 4);
        int[] was = {OLD, 4, 0, 0, 30, 0};
        int[] most = {6, 11, 65535, 9999, 99, 9999};
        for (int what = 0; what < 6; what++) {
            due(x.change(1, what, most[what]), was[what]);
            due(x.of(1, what), most[what]);
            due(x.change(1, what, 0), most[what]);
            due(x.change(1, what, 0), 0);
            due(x.of(0, what), was[what]);
        }
        sentence(7, "BEYOND.");
        for (int what = 0; what < 6; what++) {
            int[] others = {LEAST, -1, most[what] + 1, MOST};
            for (int v : others) {
                due(x.change(1, what, v), BEYOND);
            }
            due(x.of(1, what), 0);
        }
        int[] outer = {LEAST, -1, 6, MOST};
        for (int v : outer) {
            due(x.change(1, v, 0), BEYOND);
            due(x.change(v, 0, 0), BEYOND);
        }
        due(x.change(2, 0, 0), BEYOND);
        dueCounts(x, 33, 0, 0, 0, 0, 0, 0);
    }

    private static void birth() {
        sentence(8, "A GOAT gives birth: a new KID ON its LEDGE, who KNOWS the PAGES below 8 that it does, but for the least "
            + "of these: its number.");
        int[] knows = {0, 1, 0x80, 0x100, 0x8000, 0xFFFF, 0xFF00, 0x0180, 0xFF81};
        int[] titles = {0, 0, 0, 0, 0, 0xFE, 0, 0, 0x80};
        for (int i = 0; i < knows.length; i++) {
            GoatShelves x = new GoatShelves();
            goat(x, OLD, 11, knows[i]);
            x.change(0, 3, 9999);
            x.change(0, 4, 0);
            x.change(0, 5, 5);
            due(x.birth(0), 1);
            int[] kid = {KID, 11, titles[i], 0, 30, 0};
            int[] mother = {OLD, 11, knows[i], 9999, 0, 5};
            for (int what = 0; what < 6; what++) {
                due(x.of(1, what), kid[what]);
                due(x.of(0, what), mother[what]);
            }
        }
    }

    private static void birthRefused() {
        sentence(8, "BEYOND.");
        GoatShelves x = new GoatShelves();
        due(x.birth(0), BEYOND);
        x.goat(GREY, 0);
        due(x.birth(1), BEYOND);
        due(x.birth(-1), BEYOND);
        due(x.birth(LEAST), BEYOND);
        due(x.birth(MOST), BEYOND);
        due(x.count(1), 1);
        sentence(8, "FULL.");
        for (int g = 1; g < 8; g++) {
            due(x.birth(g - 1), g);
        }
        due(x.birth(0), FULL);
        due(x.birth(7), FULL);
        due(x.birth(8), BEYOND);
        due(x.birth(-1), BEYOND);
        due(x.count(1), 8);
        dueCounts(x, 7, 2, 0, 0, 0, 0, 0);
    }

    private static void ask() {
        sentence(9, "A PAGE is asked for: the GOAT that QUOTES it and COSTS least (of several the least number) tells it: that "
            + "number; ASKED is 1 more (9999 at most), SALT less by what it COSTS.");
        GoatShelves x = new GoatShelves();
        goat(x, NANNY, 1, 0x8001);
        goat(x, GOAT, 5, 0x8001);
        goat(x, GOAT, 5, 0x8001);
        goat(x, KID, 4, 1);
        goat(x, GREY, 0, 0);
        x.change(3, 4, 9);
        due(x.ask(0), 1);
        due(x.ask(15), 1);
        due(x.count(3), 46);
        due(x.of(1, 5), 2);
        due(x.of(2, 5), 0);
        // The cheapest of all doesn't QUOTE it, until it does.
        x.change(4, 2, 1);
        due(x.ask(0), 4);
        due(x.count(3), 45);
        due(x.ask(15), 1);
        int[] before = {9997, 9998, 9999};
        int[] behind = {9998, 9999, 9999};
        for (int i = 0; i < 3; i++) {
            x.change(1, 5, before[i]);
            due(x.ask(15), 1);
            due(x.of(1, 5), behind[i]);
        }
        due(x.count(3), 45 - 4 * 2);
    }

    private static void askRefused() {
        sentence(9, "BEYOND.");
        GoatShelves x = new GoatShelves();
        int[] pages = {LEAST, -1, 16, MOST};
        for (int page : pages) {
            due(x.ask(page), BEYOND);
        }
        sentence(9, "NONE: no GOAT QUOTES it.");
        due(x.ask(0), NONE);
        goat(x, BILLY, 1, 1);
        goat(x, WHITE, 10, 1);
        due(x.ask(0), NONE);
        x.set(1, 0);
        due(x.ask(0), NONE);
        due(x.ask(15), NONE);
        sentence(9, "STATE: SALT is less than that.");
        x.change(1, 1, 11);
        due(x.ask(0), STATE);
        x.set(1, 98);
        due(x.ask(0), STATE);
        due(x.of(1, 5), 0);
        due(x.count(3), 98);
        x.set(1, 99);
        due(x.ask(0), 1);
        due(x.count(3), 0);
        due(x.of(1, 5), 1);
        x.change(0, 1, 0);
        due(x.ask(0), STATE);
        x.set(1, 1);
        due(x.ask(0), STATE);
        due(x.ask(16), BEYOND);
        due(x.ask(1), NONE);
        x.set(1, 2);
        due(x.ask(0), 0);
        due(x.count(3), 0);
        dueCounts(x, 5, 0, 0, 5, 4, 0, 0);
    }
}
