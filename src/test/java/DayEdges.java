/** Sentences of promises 10 to 17: days, what will be. */
final class DayEdges extends Edges {
    private static final int[] NO_GOATS = {LEAST, -1, 2, 8, MOST};
    private static final int[] NO_PAGES = {LEAST, -1, 16, MOST};

    private DayEdges() {
    }

    static void all() {
        go();
        goTooFar();
        now();
        who();
        ahead();
        learns();
        lost();
        lostAtTheEdge();
        meet();
        reach();
        neverComes();
        nothingChanges();
    }

    /** Two GOATS that stay on LEDGE 4 and KNOW 5 and 8. */
    private static GoatShelves pair() {
        GoatShelves x = new GoatShelves();
        goat(x, GREY, 4, 5);
        goat(x, GREY, 4, 8);
        return x;
    }

    private static void go() {
        sentence(10, "n DAYS (1 to 60): PAGES that GOATS KNOW then, as a set.");
        GoatShelves x = new GoatShelves();
        due(x.go(1), 0);
        due(x.count(0), 1);
        due(x.go(60), 0);
        due(x.count(0), 61);
        bareRock(x);
        goat(x, GREY, 0, 65535);
        x.change(0, 4, 3);
        // "Then": the one PAGE that is forgotten today is gone.
        due(x.go(1), 0x7FFF);
        due(x.go(15), 0);
        sentence(10, "BEYOND.");
        int[] others = {LEAST, -1, 0, 61, MOST};
        for (int n : others) {
            due(x.go(n), BEYOND);
        }
        due(x.count(0), 77);
        due(x.of(0, 3), 16);
        dueCounts(x, 5, 0, 0, 0, 0, 0, 0);
    }

    private static void goTooFar() {
        sentence(10, "STATE: DAY would be above 99999.");
        GoatShelves x = new GoatShelves();
        passDaysUntil(x, 99940);
        due(x.go(60), STATE);
        due(x.count(0), 99940);
        due(x.go(59), 0);
        due(x.count(0), 99999);
        due(x.go(1), STATE);
        due(x.go(60), STATE);
        due(x.go(61), BEYOND);
        due(x.go(0), BEYOND);
        due(x.count(0), 99999);
        dueCounts(x, 2, 0, 0, 0, 3, 0, 0);
    }

    private static void now() {
        sentence(11, "What 0 DAY, 1 PAGES that GOATS KNOW, as a set, 2 those that are OUT OF PRINT, as a set, 3 GRASS of all "
            + "LEDGES together, 4 FED of all together, 5 LEDGES with GOATS, as a set, 6 who KNOWS most (-1: there are none).");
        GoatShelves x = new GoatShelves();
        int[] none = {0, 0, 65535, 240, 0, 0, -1};
        for (int what = 0; what < 7; what++) {
            due(x.now(what), none[what]);
        }
        crowd(x, GREY, 0);
        int[] idle = {0, 0, 65535, 240, 240, 1, 0};
        for (int what = 0; what < 7; what++) {
            due(x.now(what), idle[what]);
        }
        for (int g = 0; g < 8; g++) {
            x.change(g, 1, 11 - g);
            x.change(g, 4, 99);
            x.change(g, 2, g == 7 ? 0xF800 : g == 3 || g == 5 ? 0x001F : 0x000F);
        }
        for (int l = 0; l < 12; l++) {
            x.grass(l, 99);
        }
        int[] full = {0, 0xF81F, 0x07E0, 1188, 792, 0xFF0, 3};
        for (int what = 0; what < 7; what++) {
            due(x.now(what), full[what]);
        }
        // It is how many PAGES, not which.
        x.change(7, 2, 0x3F);
        due(x.now(6), 7);
        sentence(11, "BEYOND.");
        int[] others = {LEAST, -1, 7, MOST};
        for (int what : others) {
            due(x.now(what), BEYOND);
        }
        dueCounts(x, 4, 0, 0, 0, 0, 0, 0);
    }

    private static void who() {
        sentence(12, "GOATS that KNOW a PAGE, as a set.");
        GoatShelves x = new GoatShelves();
        due(x.who(0), 0);
        due(x.who(15), 0);
        crowd(x, WHITE, 0);
        due(x.who(0), 0);
        for (int g = 0; g < 8; g++) {
            x.change(g, 2, 0x8001);
        }
        due(x.who(0), 255);
        due(x.who(15), 255);
        x.change(0, 2, 0);
        due(x.who(15), 254);
        sentence(12, "BEYOND.");
        for (int page : NO_PAGES) {
            due(x.who(page), BEYOND);
        }
        dueCounts(x, 4, 0, 0, 0, 0, 0, 0);
    }

    private static void ahead() {
        sentence(13, "What 1 to 4 (as in of()) of a GOAT behind n (0 to 100) DAYS.");
        GoatShelves x = pair();
        int[] now = {0, 4, 5, 0, 30};
        int[] soon = {0, 4, 13, 1, 33};
        for (int what = 1; what <= 4; what++) {
            due(x.ahead(0, what, 0), now[what]);
            due(x.ahead(0, what, 1), soon[what]);
        }
        due(x.ahead(0, 3, 99), 99);
        due(x.ahead(0, 3, 100), 100);
        due(x.ahead(1, 3, 100), 100);
        due(x.ahead(0, 1, 100), 4);
        sentence(13, "BEYOND.");
        for (int goat : NO_GOATS) {
            due(x.ahead(goat, 1, 1), BEYOND);
        }
        int[] whats = {LEAST, -1, 0, 5, 6, 9, MOST};
        for (int what : whats) {
            due(x.ahead(0, what, 1), BEYOND);
        }
        int[] days = {LEAST, -1, 101, MOST};
        for (int n : days) {
            due(x.ahead(0, 1, n), BEYOND);
        }
        dueCounts(x, 16, 0, 0, 0, 0, 0, 0);
    }

    private static void learns() {
        sentence(14, "Behind how many DAYS (0 to 100, the fewest) a GOAT KNOWS a PAGE.");
        GoatShelves x = pair();
        due(x.learns(0, 0), 0);
        due(x.learns(0, 2), 0);
        due(x.learns(0, 3), 1);
        due(x.learns(1, 0), 1);
        due(x.learns(1, 2), 2);
        // What it KNOWS now, though it will be forgotten tomorrow.
        GoatShelves y = pair();
        bareRock(y);
        y.change(0, 4, 0);
        y.change(1, 4, 0);
        due(y.learns(0, 2), 0);
        due(y.ahead(0, 2, 1), 1);
        GoatShelves z = new GoatShelves();
        text(z, "grows 1; grass 0 43; grass 2 24; grass 11 61; nanny on 2; goat on 4 knows 1");
        due(z.learns(0, 0), 100);
        due(z.ahead(0, 2, 99), 0);
        due(z.ahead(0, 2, 100), 1);
        sentence(14, "BEYOND.");
        for (int goat : NO_GOATS) {
            due(x.learns(goat, 0), BEYOND);
        }
        for (int page : NO_PAGES) {
            due(x.learns(0, page), BEYOND);
        }
        dueCounts(x, 9, 0, 0, 0, 0, 0, 0);
        sentence(14, "NONE.");
        due(x.learns(0, 1), NONE);
        due(x.learns(1, 15), NONE);
        dueCounts(x, 9, 0, 0, 2, 0, 0, 0);
        // Behind 101 DAYS is too late.
        GoatShelves w = new GoatShelves();
        text(w, "grows 1; grass 2 65; grass 3 3; grass 6 9; grass 11 88; billy on 9 knows 4; billy on 7 knows 1");
        due(w.learns(0, 0), NONE);
        w.go(1);
        due(w.learns(0, 0), 100);
    }

    private static void lost() {
        sentence(15, "Behind how many DAYS (0 to 100, the fewest) a PAGE is OUT OF PRINT.");
        GoatShelves x = new GoatShelves();
        due(x.lost(0), 0);
        due(x.lost(15), 0);
        bareRock(x);
        goat(x, GREY, 0, 0x8001);
        goat(x, GREY, 5, 1);
        x.change(0, 4, 3);
        x.change(1, 4, 4);
        due(x.lost(14), 0);
        due(x.lost(15), 1);
        due(x.lost(0), 2);
        x.change(0, 4, 4);
        due(x.lost(15), 2);
        due(x.lost(0), 3);
        sentence(15, "BEYOND.");
        for (int page : NO_PAGES) {
            due(x.lost(page), BEYOND);
        }
        dueCounts(x, 4, 0, 0, 0, 0, 0, 0);
        sentence(15, "NONE.");
        x.set(0, 3);
        due(x.lost(0), NONE);
        due(x.lost(15), NONE);
        due(x.lost(14), 0);
        dueCounts(x, 4, 0, 0, 2, 0, 0, 0);
    }

    /** FED is 96 behind the first DAY (99 and 2 are 99 at most), then 1 less a DAY: 0 behind 97, when it forgets first. */
    private static void lostAtTheEdge() {
        sentence(15, "Behind how many DAYS (0 to 100, the fewest) a PAGE is OUT OF PRINT.");
        GoatShelves x = new GoatShelves();
        bareRock(x);
        x.set(0, 2);
        x.grass(0, 2);
        goat(x, GREY, 0, 0x8111);
        x.change(0, 4, 99);
        due(x.lost(15), 97);
        due(x.lost(8), 98);
        due(x.lost(4), 99);
        due(x.lost(0), 100);
        sentence(15, "NONE.");
        x.change(0, 2, 0x8113);
        due(x.lost(1), 100);
        due(x.lost(0), NONE);
        x.go(1);
        due(x.lost(0), 100);
    }

    private static void meet() {
        sentence(16, "Behind how many DAYS (0 to 100, the fewest) two GOATS are ON one LEDGE.");
        GoatShelves x = new GoatShelves();
        x.goat(WHITE, 0);
        x.goat(GREY, 11);
        x.goat(GREY, 11);
        x.goat(WHITE, 10);
        due(x.meet(1, 2), 0);
        due(x.meet(2, 1), 0);
        due(x.meet(3, 1), 1);
        due(x.meet(0, 1), 11);
        due(x.meet(1, 0), 11);
        due(x.meet(0, 3), 11);
        // They are together now, though not tomorrow.
        x.change(0, 1, 4);
        x.change(1, 1, 4);
        due(x.meet(0, 1), 0);
        GoatShelves y = new GoatShelves();
        text(y, "grows 1; grass 0 43; grass 2 24; grass 11 61; nanny on 2; goat on 4 knows 1");
        due(y.meet(0, 1), 100);
        sentence(16, "BEYOND: also one and the same.");
        int[] noGoats = {LEAST, -1, 4, 8, MOST};
        for (int goat : noGoats) {
            due(x.meet(goat, 0), BEYOND);
            due(x.meet(0, goat), BEYOND);
            due(x.meet(goat, goat), BEYOND);
        }
        for (int goat = 0; goat < 4; goat++) {
            due(x.meet(goat, goat), BEYOND);
        }
        dueCounts(x, 19, 0, 0, 0, 0, 0, 0);
        sentence(16, "NONE.");
        due(x.meet(1, 2), NONE);
        dueCounts(x, 19, 0, 0, 1, 0, 0, 0);
        GoatShelves z = new GoatShelves();
        text(z, "grows 2; grass 1 64; grass 3 91; billy on 5; kid on 3; goat on 1 knows 1");
        due(z.meet(0, 1), NONE);
        z.go(1);
        due(z.meet(0, 1), 100);
    }

    private static void reach() {
        sentence(17, "Behind how many DAYS (0 to 100, the fewest) a GOAT is ON a LEDGE.");
        GoatShelves x = new GoatShelves();
        x.goat(WHITE, 0);
        x.goat(OLD, 11);
        due(x.reach(0, 0), 0);
        due(x.reach(0, 1), 1);
        due(x.reach(0, 11), 11);
        due(x.reach(1, 11), 0);
        due(x.reach(1, 10), 1);
        due(x.reach(1, 0), 51);
        x.change(1, 3, 1);
        due(x.reach(1, 10), 5);
        due(x.reach(1, 0), 55);
        GoatShelves y = new GoatShelves();
        text(y, "grows 0; grass 1 18; grass 4 68; grass 7 32; grass 8 96; grass 9 98; grass 10 67; kid on 8; old on 3 knows 4");
        due(y.ahead(0, 1, 99), 4);
        due(y.reach(0, 3), 100);
        sentence(17, "BEYOND.");
        for (int goat : NO_GOATS) {
            due(x.reach(goat, 0), BEYOND);
        }
        int[] noLedges = {LEAST, -1, 12, MOST};
        for (int ledge : noLedges) {
            due(x.reach(0, ledge), BEYOND);
        }
        dueCounts(x, 9, 0, 0, 0, 0, 0, 0);
        sentence(17, "NONE.");
        x.change(0, 1, 1);
        due(x.reach(0, 0), NONE);
        x.change(1, 1, 10);
        due(x.reach(1, 11), NONE);
        dueCounts(x, 9, 0, 0, 2, 0, 0, 0);
        GoatShelves z = new GoatShelves();
        text(z, "grows 1; grass 5 56; grass 6 37; grass 7 50; grass 9 38; kid on 9; old on 5 knows 2; white on 7 knows 1");
        due(z.reach(0, 3), NONE);
        z.go(1);
        due(z.reach(0, 3), 100);
    }

    private static void neverComes() {
        sentence(14, "BEYOND.");
        GoatShelves x = new GoatShelves();
        due(x.learns(0, 0), BEYOND);
        due(x.reach(0, 0), BEYOND);
        due(x.ahead(0, 1, 0), BEYOND);
        due(x.meet(0, 1), BEYOND);
        x.goat(GREY, 0);
        due(x.meet(0, 1), BEYOND);
        dueCounts(x, 5, 0, 0, 0, 0, 0, 0);
    }

    private static void nothingChanges() {
        sentence(13, "What 1 to 4 (as in of()) of a GOAT behind n (0 to 100) DAYS.");
        GoatShelves x = pair();
        x.ahead(0, 1, 100);
        x.learns(0, 15);
        x.lost(0);
        x.meet(0, 1);
        x.reach(0, 0);
        due(x.count(0), 0);
        due(x.count(4), 240);
        due(x.now(4), 60);
        due(x.of(0, 2), 5);
        due(x.of(1, 2), 8);
        due(x.of(0, 3), 0);
    }
}
