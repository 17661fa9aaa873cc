/** Each promise by itself, with answers reckoned by hand from the document. */
public final class PromisesTest extends IslandChecks {
    public static void main(String[] args) {
        newObject();
        grass();
        ledge();
        set();
        goat();
        of();
        climbs();
        quotes();
        change();
        birth();
        ask();
        go();
        teaching();
        forgetting();
        now();
        who();
        ahead();
        learns();
        lost();
        meet();
        reach();
        put();
        kindFor();
        growsFor();
        cover();
        price();
        censor();
        kinds();
        fits();
        slips();
        odds();
        seed();
        feed();
        wipe();
        text();
        textFaults();
        hold();
        as();
        sheet();
        write();
        copy();
        load();
        judge();
        image();
        undo();
        tear();
        count();
        status();
        Checks.end();
    }

    private static void newObject() {
        at = "1 a new object";
        GoatShelves x = new GoatShelves();
        int[] counts = {0, 0, 0, 50, 240, 0, 1, 0};
        for (int what = 0; what < 8; what++) {
            due(x.count(what), counts[what]);
        }
        for (int l = 0; l < 12; l++) {
            due(x.ledge(l, 0), 20);
            due(x.ledge(l, 1), 0);
        }
        due(x.set(0, 0), 2);
        due(x.status(-1), 0);
        due(x.undo(), NONE);
        for (int s = 0; s < 4; s++) {
            due(x.load(s), MISSING);
        }
        for (int spot = 0; spot < 10; spot++) {
            due(x.as(spot, GOAT), MISSING);
        }
        due(new GoatShelves().status(-1), 0);
    }

    private static void grass() {
        at = "2 grass";
        GoatShelves x = new GoatShelves();
        due(x.grass(0, 99), 20);
        due(x.grass(0, 0), 99);
        due(x.grass(11, 5), 20);
        due(x.grass(11, 6), 5);
        due(x.grass(12, 5), BEYOND);
        due(x.grass(-1, 5), BEYOND);
        due(x.grass(0, 100), BEYOND);
        due(x.grass(0, -1), BEYOND);
        due(x.grass(LEAST, MOST), BEYOND);
        due(x.grass(0, 1), 0);
        due(x.count(4), 1 + 6 + 200);
    }

    private static void ledge() {
        at = "3 ledge";
        GoatShelves x = new GoatShelves();
        goat(x, GREY, 4, 3);
        goat(x, KID, 5, 16);
        goat(x, WHITE, 4, 65535 - 7);
        goat(x, WHITE, 11, 0);
        x.grass(4, 7);
        due(x.ledge(4, 0), 7);
        due(x.ledge(4, 1), 5);
        due(x.ledge(4, 2), 65535 - 4);
        due(x.ledge(5, 1), 2);
        due(x.ledge(11, 1), 8);
        due(x.ledge(11, 2), 0);
        due(x.ledge(0, 1), 0);
        due(x.ledge(12, 0), BEYOND);
        due(x.ledge(-1, 0), BEYOND);
        due(x.ledge(0, 3), BEYOND);
        due(x.ledge(0, -1), BEYOND);
    }

    private static void set() {
        at = "4 set";
        GoatShelves x = new GoatShelves();
        due(x.set(0, 20), 2);
        due(x.set(0, 0), 20);
        due(x.set(1, 9999), 50);
        due(x.set(1, 0), 9999);
        due(x.set(0, 21), BEYOND);
        due(x.set(0, -1), BEYOND);
        due(x.set(1, 10000), BEYOND);
        due(x.set(1, -1), BEYOND);
        due(x.set(2, 0), BEYOND);
        due(x.set(-1, 0), BEYOND);
        due(x.set(0, 3), 0);
        due(x.count(3), 0);
    }

    private static void goat() {
        at = "5 goat";
        GoatShelves x = new GoatShelves();
        due(x.goat(7, 0), BEYOND);
        due(x.goat(-1, 0), BEYOND);
        due(x.goat(0, 12), BEYOND);
        due(x.goat(0, -1), BEYOND);
        for (int g = 0; g < 8; g++) {
            due(x.goat(g % 7, 11 - g), g);
            int[] first = {g % 7, 11 - g, 0, 0, 30, 0};
            for (int what = 0; what < 6; what++) {
                due(x.of(g, what), first[what]);
            }
        }
        due(x.goat(0, 0), FULL);
        due(x.goat(7, 0), BEYOND);
        due(x.count(1), 8);
    }

    private static void of() {
        at = "6 of";
        GoatShelves x = new GoatShelves();
        int[] costs = {2, 9, 5, 4, 4 + 12, 99, 4};
        int[] grazes = {5, 7, 6, 6, 6, 2, 3};
        for (int kind = 0; kind < 7; kind++) {
            int g = goat(x, kind, 7, 127);
            x.change(g, 3, 129);
            due(x.of(g, 6), costs[kind]);
            due(x.of(g, 7), grazes[kind]);
        }
        x.change(BILLY, 2, 0);
        due(x.of(BILLY, 6), 2);
        x.change(BILLY, 2, 65535);
        due(x.of(BILLY, 6), 10);
        x.change(OLD, 3, 9999);
        due(x.of(OLD, 6), 4 + 999);
        due(x.of(7, 0), BEYOND);
        due(x.of(-1, 0), BEYOND);
        due(x.of(0, 10), BEYOND);
        due(x.of(0, -1), BEYOND);
    }

    private static void climbs() {
        at = "6 of (8)";
        GoatShelves x = new GoatShelves();
        for (int kind = 0; kind < 7; kind++) {
            x.goat(kind, 5);
        }
        int[] level = {5, 5, 5, 5, 4, 6, 5};
        int[] above = {6, 6, 6, 5, 4, 6, 6};
        int[] below = {4, 4, 4, 5, 4, 6, 4};
        for (int g = 0; g < 7; g++) {
            due(x.of(g, 8), level[g]);
        }
        x.grass(6, 21);
        x.grass(4, 21);
        for (int g = 0; g < 7; g++) {
            due(x.of(g, 8), above[g]);
        }
        x.grass(4, 22);
        for (int g = 0; g < 7; g++) {
            due(x.of(g, 8), below[g]);
        }
        x.change(OLD, 3, 4);
        due(x.of(OLD, 8), 5);
        x.change(OLD, 3, 5);
        due(x.of(OLD, 8), 4);
        x.change(OLD, 1, 0);
        due(x.of(OLD, 8), 0);
        x.change(WHITE, 1, 11);
        due(x.of(WHITE, 8), 11);
        due(x.change(GREY, 0, BILLY), GREY);
        due(x.of(GREY, 8), 5);
        x.go(1);
        x.change(BILLY, 1, 5);
        x.change(GREY, 1, 5);
        x.grass(6, 99);
        due(x.of(BILLY, 8), 5);
        due(x.of(GREY, 8), 6);
        GoatShelves y = new GoatShelves();
        y.goat(GOAT, 0);
        y.goat(GOAT, 11);
        y.grass(10, 21);
        y.grass(1, 21);
        due(y.of(0, 8), 1);
        due(y.of(1, 8), 10);
    }

    private static void quotes() {
        at = "6 of (9)";
        GoatShelves x = new GoatShelves();
        for (int kind = 0; kind < 7; kind++) {
            goat(x, kind, 3, 65535 - 2);
        }
        int[] first = {65533, 65533, 0, 65533, 65533 & ~0x9249, 0, 253};
        for (int g = 0; g < 7; g++) {
            due(x.of(g, 9), first[g]);
        }
        for (int g = 0; g < 7; g++) {
            x.change(g, 4, 9);
            x.change(g, 1, 10);
            x.change(g, 3, 1);
        }
        int[] then = {65533, 0, 65533, 65533, 65533 & ~0x4924, 0, 0};
        for (int g = 0; g < 7; g++) {
            due(x.of(g, 9), then[g]);
        }
        x.change(NANNY, 4, 10);
        x.change(KID, 4, 10);
        x.change(WHITE, 1, 11);
        x.change(BILLY, 1, 11);
        x.change(OLD, 3, 2);
        due(x.of(NANNY, 9), 65533);
        due(x.of(KID, 9), 253);
        due(x.of(WHITE, 9), 65533);
        due(x.of(BILLY, 9), 0);
        due(x.of(OLD, 9), 65533 & ~0x2492);
    }

    private static void change() {
        at = "7 change";
        GoatShelves x = new GoatShelves();
        x.goat(NANNY, 3);
        int[] was = {1, 3, 0, 0, 30, 0};
        int[] most = {6, 11, 65535, 9999, 99, 9999};
        for (int what = 0; what < 6; what++) {
            due(x.change(0, what, most[what] + 1), BEYOND);
            due(x.change(0, what, -1), BEYOND);
            due(x.change(0, what, most[what]), was[what]);
            due(x.change(0, what, 0), most[what]);
            due(x.of(0, what), 0);
        }
        due(x.change(0, 6, 0), BEYOND);
        due(x.change(0, -1, 0), BEYOND);
        due(x.change(1, 0, 0), BEYOND);
        due(x.change(-1, 0, 0), BEYOND);
    }

    private static void birth() {
        at = "8 birth";
        GoatShelves x = new GoatShelves();
        due(x.birth(0), BEYOND);
        goat(x, WHITE, 6, 0xFF58);
        x.change(0, 4, 99);
        due(x.birth(0), 1);
        int[] kid = {KID, 6, 0x50, 0, 30, 0};
        for (int what = 0; what < 6; what++) {
            due(x.of(1, what), kid[what]);
        }
        due(x.of(0, 2), 0xFF58);
        due(x.birth(1), 2);
        due(x.of(2, 2), 0x40);
        due(x.birth(2), 3);
        due(x.of(3, 2), 0);
        due(x.birth(3), 4);
        due(x.of(4, 2), 0);
        x.change(0, 2, 0xFF00);
        due(x.birth(0), 5);
        due(x.of(5, 2), 0);
        x.birth(0);
        due(x.birth(-1), BEYOND);
        due(x.birth(0), 7);
        due(x.birth(8), BEYOND);
        due(x.birth(0), FULL);
    }

    private static void ask() {
        at = "9 ask";
        GoatShelves x = new GoatShelves();
        due(x.ask(16), BEYOND);
        due(x.ask(-1), BEYOND);
        due(x.ask(0), NONE);
        goat(x, NANNY, 3, 1);
        goat(x, GOAT, 3, 3);
        goat(x, GOAT, 3, 3);
        goat(x, WHITE, 3, 4);
        due(x.ask(0), 1);
        due(x.ask(0), 1);
        due(x.of(1, 5), 2);
        due(x.of(0, 5), 0);
        due(x.count(3), 46);
        due(x.ask(2), NONE);
        x.change(3, 1, 11);
        due(x.ask(2), STATE);
        due(x.of(3, 5), 0);
        due(x.count(3), 46);
        x.set(1, 99);
        due(x.ask(2), 3);
        due(x.count(3), 0);
        due(x.ask(0), STATE);
        x.set(1, 2);
        x.change(1, 5, 9999);
        due(x.ask(1), 1);
        due(x.of(1, 5), 9999);
        due(x.count(3), 0);
        x.change(1, 2, 0);
        x.change(2, 2, 0);
        x.set(1, 5);
        due(x.ask(0), 0);
        due(x.count(3), 0);
    }

    private static void go() {
        at = "10 go";
        GoatShelves x = new GoatShelves();
        due(x.go(0), BEYOND);
        due(x.go(61), BEYOND);
        due(x.go(-1), BEYOND);
        goat(x, NANNY, 0, 3);
        due(x.go(1), 3);
        due(x.count(0), 1);
        due(x.of(0, 1), 0);
        due(x.of(0, 3), 1);
        due(x.of(0, 4), 30 + 7 - 3);
        due(x.ledge(0, 0), 20 - 7 + 2);
        due(x.ledge(1, 0), 22);
        due(x.go(1), 3);
        due(x.of(0, 1), 1);
        due(x.ledge(1, 0), 22 - 7 + 2);
        due(x.ledge(0, 0), 17);
        due(x.of(0, 4), 38);
        due(x.go(60), 3);
        due(x.count(0), 62);
        x.set(0, 20);
        x.go(60);
        due(x.ledge(11, 0), 99);
        x.change(0, 4, 99);
        x.change(0, 3, 9999);
        x.go(1);
        due(x.of(0, 4), 96);
        due(x.of(0, 3), 9999);
        GoatShelves y = new GoatShelves();
        bareRock(y);
        y.grass(6, 4);
        y.goat(GREY, 6);
        y.goat(GREY, 6);
        y.change(1, 4, 2);
        due(y.go(1), 0);
        due(y.of(0, 4), 31);
        due(y.of(1, 4), 0);
        due(y.ledge(6, 0), 0);
    }

    private static void teaching() {
        at = "10 go: teaching";
        GoatShelves x = new GoatShelves();
        goat(x, GREY, 4, 5);
        goat(x, GREY, 4, 8);
        goat(x, GREY, 5, 0);
        due(x.go(1), 13);
        due(x.of(0, 2), 13);
        due(x.of(1, 2), 9);
        due(x.of(2, 2), 0);
        x.go(1);
        due(x.of(1, 2), 13);
        x.go(5);
        due(x.of(0, 2), 13);
        GoatShelves y = new GoatShelves();
        bareRock(y);
        goat(y, GREY, 4, 0);
        goat(y, GREY, 4, 3);
        y.change(0, 4, 22);
        due(y.go(1), 3);
        due(y.of(0, 4), 19);
        due(y.of(0, 2), 0);
        y.change(0, 4, 23);
        y.go(1);
        due(y.of(0, 2), 1);
    }

    private static void forgetting() {
        at = "10 go: forgetting";
        GoatShelves x = new GoatShelves();
        bareRock(x);
        goat(x, GREY, 4, 1 << 7);
        goat(x, GREY, 4, 0);
        x.change(0, 4, 3);
        due(x.go(1), 0);
        due(x.of(0, 2), 0);
        due(x.of(1, 2), 0);
        goat(x, GREY, 9, 0x8003);
        x.change(2, 4, 4);
        due(x.go(1), 0x8003);
        due(x.go(1), 3);
        due(x.go(2), 0);
        GoatShelves y = new GoatShelves();
        bareRock(y);
        goat(y, GREY, 4, 0);
        goat(y, GREY, 4, 1 << 7);
        y.change(1, 4, 0);
        due(y.go(1), 1 << 7);
        due(y.of(0, 2), 1 << 7);
        due(y.of(1, 2), 0);
    }

    private static void now() {
        at = "11 now";
        GoatShelves x = new GoatShelves();
        int[] empty = {0, 0, 65535, 240, 0, 0, -1};
        for (int what = 0; what < 7; what++) {
            due(x.now(what), empty[what]);
        }
        goat(x, GREY, 2, 0);
        due(x.now(6), 0);
        goat(x, GREY, 5, 0x300);
        goat(x, GREY, 11, 0x21);
        x.grass(0, 99);
        x.change(2, 4, 99);
        int[] then = {0, 0x321, 65535 - 0x321, 319, 159, 1 << 2 | 1 << 5 | 1 << 11, 1};
        for (int what = 0; what < 7; what++) {
            due(x.now(what), then[what]);
        }
        x.change(2, 2, 7);
        due(x.now(6), 2);
        x.go(3);
        due(x.now(0), 3);
        due(x.now(7), BEYOND);
        due(x.now(-1), BEYOND);
    }

    private static void who() {
        at = "12 who";
        GoatShelves x = new GoatShelves();
        due(x.who(0), 0);
        goat(x, GREY, 2, 1);
        goat(x, NANNY, 2, 0x8001);
        goat(x, NANNY, 2, 0x8000);
        due(x.who(0), 3);
        due(x.who(15), 6);
        due(x.who(1), 0);
        due(x.who(16), BEYOND);
        due(x.who(-1), BEYOND);
    }

    private static void ahead() {
        at = "13 ahead";
        GoatShelves x = new GoatShelves();
        goat(x, WHITE, 0, 1);
        goat(x, GREY, 3, 8);
        due(x.ahead(0, 1, 0), 0);
        due(x.ahead(0, 1, 4), 4);
        due(x.ahead(0, 1, 100), 11);
        due(x.ahead(0, 3, 100), 100);
        due(x.ahead(1, 2, 2), 8);
        due(x.ahead(1, 2, 3), 9);
        due(x.ahead(0, 4, 1), 29);
        due(x.count(0), 0);
        due(x.of(0, 1), 0);
        due(x.count(4), 240);
        due(x.ahead(0, 0, 1), BEYOND);
        due(x.ahead(0, 5, 1), BEYOND);
        due(x.ahead(0, 1, 101), BEYOND);
        due(x.ahead(0, 1, -1), BEYOND);
        due(x.ahead(2, 1, 1), BEYOND);
        due(x.ahead(-1, 1, 1), BEYOND);
    }

    private static void learns() {
        at = "14 learns";
        GoatShelves x = new GoatShelves();
        goat(x, GREY, 4, 5);
        goat(x, GREY, 4, 8);
        due(x.learns(0, 0), 0);
        due(x.learns(0, 3), 1);
        due(x.learns(1, 2), 2);
        due(x.learns(1, 15), NONE);
        due(x.learns(1, 16), BEYOND);
        due(x.learns(1, -1), BEYOND);
        due(x.learns(2, 0), BEYOND);
        due(x.learns(-1, 0), BEYOND);
        due(x.of(1, 2), 8);
        farAhead();
    }

    private static void farAhead() {
        GoatShelves x = new GoatShelves();
        x.set(0, 20);
        goat(x, OLD, 11, 0);
        goat(x, GREY, 0, 1);
        x.change(0, 3, 1);
        // AGE is a multiple of 5 on the DAYS 5, 10, ..: one LEDGE down each.
        due(x.reach(0, 10), 5);
        due(x.reach(0, 0), 55);
        due(x.meet(1, 0), 55);
        due(x.learns(0, 0), 55);
        GoatShelves y = new GoatShelves();
        bareRock(y);
        goat(y, GREY, 0, 3);
        y.change(0, 4, 99);
        y.grass(0, 6);
        // 99 and 6 are 99 at most, so FED is 3 less each DAY from the first one on.
        due(y.lost(1), 33);
        due(y.lost(0), 34);
        y.change(0, 2, 65535);
        due(y.lost(0), 48);
        lostAtTheEdge();
        justInTime();
        tooLate();
    }

    /** What comes behind 100 DAYS; the cliffs were found by search. */
    private static void justInTime() {
        at = "14, 16, 17: behind 100 DAYS";
        GoatShelves x = new GoatShelves();
        text(x, "grows 1; grass 0 43; grass 2 24; grass 11 61; nanny on 2; goat on 4 knows 1");
        due(x.ahead(0, 2, 99), 0);
        due(x.ahead(0, 2, 100), 1);
        due(x.learns(0, 0), 100);
        due(x.meet(0, 1), 100);
        GoatShelves y = new GoatShelves();
        text(y, "grows 0; grass 1 18; grass 4 68; grass 7 32; grass 8 96; grass 9 98; grass 10 67; kid on 8; old on 3 knows 4");
        due(y.ahead(0, 1, 99), 4);
        due(y.ahead(0, 1, 100), 3);
        due(y.reach(0, 3), 100);
    }

    /** What comes behind 101 DAYS; these cliffs, too. */
    private static void tooLate() {
        at = "14, 16, 17: behind 101 DAYS";
        GoatShelves x = new GoatShelves();
        text(x, "grows 1; grass 2 65; grass 3 3; grass 6 9; grass 11 88; billy on 9 knows 4; billy on 7 knows 1");
        due(x.learns(0, 0), NONE);
        x.go(1);
        due(x.learns(0, 0), 100);
        GoatShelves y = new GoatShelves();
        text(y, "grows 2; grass 1 64; grass 3 91; billy on 5; kid on 3; goat on 1 knows 1");
        due(y.meet(0, 1), NONE);
        y.go(1);
        due(y.meet(0, 1), 100);
        GoatShelves z = new GoatShelves();
        text(z, "grows 1; grass 5 56; grass 6 37; grass 7 50; grass 9 38; kid on 9; old on 5 knows 2; white on 7 knows 1");
        due(z.reach(0, 3), NONE);
        z.go(1);
        due(z.reach(0, 3), 100);
    }

    /** With GROWS 2 it is FED one less each DAY: the last of 4 PAGES goes behind 100 DAYS, a fifth one would be too late. */
    private static void lostAtTheEdge() {
        GoatShelves x = new GoatShelves();
        bareRock(x);
        x.set(0, 2);
        x.grass(0, 2);
        goat(x, GREY, 0, 3);
        x.change(0, 4, 99);
        // The first DAY: 99 + 2 is 99 at most, less 3: 96; then 1 less a DAY.
        due(x.ahead(0, 4, 1), 96);
        due(x.ahead(0, 4, 96), 1);
        due(x.lost(1), 97);
        due(x.lost(0), 98);
        x.change(0, 2, 15);
        due(x.lost(0), 100);
        x.change(0, 2, 31);
        due(x.lost(0), NONE);
        due(x.lost(1), 100);
    }

    private static void lost() {
        at = "15 lost";
        GoatShelves x = new GoatShelves();
        due(x.lost(0), 0);
        bareRock(x);
        goat(x, GREY, 4, 3);
        x.change(0, 4, 4);
        due(x.lost(2), 0);
        due(x.lost(1), 2);
        due(x.lost(0), 3);
        x.set(0, 3);
        due(x.lost(1), NONE);
        due(x.lost(16), BEYOND);
        due(x.lost(-1), BEYOND);
        due(x.count(0), 0);
        due(x.now(1), 3);
    }

    private static void meet() {
        at = "16 meet";
        GoatShelves x = new GoatShelves();
        x.goat(WHITE, 0);
        x.goat(GREY, 3);
        x.goat(GREY, 3);
        x.goat(GREY, 5);
        due(x.meet(0, 1), 3);
        due(x.meet(1, 0), 3);
        due(x.meet(1, 2), 0);
        due(x.meet(2, 3), NONE);
        due(x.meet(0, 0), BEYOND);
        due(x.meet(0, 4), BEYOND);
        due(x.meet(4, 0), BEYOND);
        due(x.meet(-1, 0), BEYOND);
        due(x.meet(0, -1), BEYOND);
        due(x.of(0, 1), 0);
    }

    private static void reach() {
        at = "17 reach";
        GoatShelves x = new GoatShelves();
        x.goat(WHITE, 0);
        x.goat(OLD, 3);
        x.goat(GREY, 3);
        due(x.reach(0, 0), 0);
        due(x.reach(0, 11), 11);
        due(x.reach(1, 2), 1);
        due(x.reach(1, 1), 6);
        due(x.reach(1, 0), 11);
        due(x.reach(1, 4), NONE);
        due(x.reach(2, 4), NONE);
        due(x.reach(0, 12), BEYOND);
        due(x.reach(0, -1), BEYOND);
        due(x.reach(3, 0), BEYOND);
        due(x.reach(-1, 0), BEYOND);
        due(x.of(0, 1), 0);
    }

    private static void put() {
        at = "18 put";
        GoatShelves x = new GoatShelves();
        x.set(0, 20);
        goat(x, GREY, 3, 0);
        goat(x, GREY, 7, 7);
        goat(x, GREY, 9, 1);
        due(x.put(0, 0), 0);
        due(x.put(0, 1), 7);
        due(x.put(0, 40), 7);
        x.change(2, 2, 56);
        due(x.put(0, 3), 7);
        x.change(2, 2, 120);
        due(x.put(0, 3), 7);
        due(x.put(0, 4), 9);
        due(x.put(0, 41), BEYOND);
        due(x.put(0, -1), BEYOND);
        due(x.put(3, 0), BEYOND);
        due(x.put(-1, 0), BEYOND);
        due(x.of(0, 1), 3);
    }

    private static void kindFor() {
        at = "19 kindFor";
        GoatShelves x = new GoatShelves();
        goat(x, GREY, 5, 0);
        goat(x, GREY, 6, 7);
        due(x.kindFor(0, 0), GOAT);
        due(x.kindFor(0, 1), WHITE);
        x.change(1, 1, 4);
        due(x.kindFor(0, 1), OLD);
        x.change(1, 1, 5);
        due(x.kindFor(0, 1), GOAT);
        x.grass(6, 21);
        due(x.kindFor(0, 1), GREY);
        due(x.kindFor(0, 41), BEYOND);
        due(x.kindFor(0, -1), BEYOND);
        due(x.kindFor(2, 0), BEYOND);
        due(x.kindFor(-1, 0), BEYOND);
        due(x.of(0, 0), GREY);
    }

    private static void growsFor() {
        at = "20 growsFor";
        GoatShelves x = new GoatShelves();
        bareRock(x);
        goat(x, GREY, 2, 16);
        x.change(0, 4, 4);
        due(x.growsFor(4, 0), 0);
        due(x.growsFor(4, 1), 0);
        due(x.growsFor(4, 2), 3);
        due(x.growsFor(4, 40), 3);
        due(x.growsFor(3, 0), NONE);
        x.change(0, 4, 3);
        due(x.growsFor(4, 1), NONE);
        due(x.growsFor(16, 0), BEYOND);
        due(x.growsFor(-1, 0), BEYOND);
        due(x.growsFor(4, 41), BEYOND);
        due(x.growsFor(4, -1), BEYOND);
        due(x.set(0, 1), 0);
        growsForTheMost();
    }

    private static void growsForTheMost() {
        GoatShelves x = new GoatShelves();
        bareRock(x);
        goat(x, GREY, 0, 0);
        goat(x, GREY, 0, 0);
        goat(x, GREY, 0, 0);
        goat(x, GREY, 0, 16);
        for (int g = 0; g < 3; g++) {
            x.change(g, 4, 10);
        }
        x.change(3, 4, 4);
        // The three before it take 18, so GROWS 20 leaves 2: FED is 1, then 1 + 2 - 3.
        due(x.growsFor(4, 2), NONE);
        x.change(3, 4, 5);
        due(x.growsFor(4, 2), 20);
        x.change(3, 4, 6);
        due(x.growsFor(4, 2), 19);
    }

    private static void cover() {
        at = "21 cover";
        GoatShelves x = new GoatShelves();
        due(x.cover(0), 0);
        due(x.cover(1), NONE);
        goat(x, GREY, 0, 1);
        goat(x, GREY, 1, 3);
        goat(x, GREY, 2, 12);
        goat(x, GREY, 3, 14);
        goat(x, GREY, 4, 0x8000);
        due(x.cover(1), 1);
        due(x.cover(3), 2);
        due(x.cover(15), 6);
        due(x.cover(14), 8);
        due(x.cover(0x800F), 22);
        due(x.cover(16), NONE);
        due(x.cover(0), 0);
        x.change(1, 2, 0);
        due(x.cover(15), 9);
        due(x.cover(65536), BEYOND);
        due(x.cover(-1), BEYOND);
        for (int g = 5; g < 8; g++) {
            goat(x, KID, 0, 0x100 << g - 5);
        }
        due(x.cover(0x8701), 1 + 16 + 32 + 64 + 128);
    }

    private static void price() {
        at = "22 price";
        GoatShelves x = new GoatShelves();
        due(x.price(0), 0);
        due(x.price(1), NONE);
        goat(x, NANNY, 4, 7);
        goat(x, GOAT, 4, 1);
        goat(x, WHITE, 11, 0x8000);
        due(x.price(1), 2);
        due(x.price(7), 2 + 6 + 6);
        due(x.price(0x8001), 101);
        due(x.price(9), NONE);
        x.change(0, 4, 9);
        due(x.price(3), NONE);
        due(x.price(1), 2);
        due(x.price(65536), BEYOND);
        due(x.price(-1), BEYOND);
        due(x.count(3), 50);
    }

    private static void censor() {
        at = "23 censor";
        GoatShelves x = new GoatShelves();
        due(x.censor(0, 12), 0);
        goat(x, GREY, 1, 0);
        goat(x, GREY, 1, 2);
        goat(x, GREY, 5, 2);
        due(x.censor(0, 0), 0);
        due(x.censor(1, 0), 6);
        due(x.censor(1, 12), 6);
        x.change(0, 2, 2);
        due(x.censor(1, 1), 7);
        due(x.censor(16, 0), BEYOND);
        due(x.censor(-1, 0), BEYOND);
        due(x.censor(0, 13), BEYOND);
        due(x.censor(0, -1), BEYOND);
        due(x.of(0, 2), 2);
        due(x.go(1), 2);
        starving();
    }

    private static void starving() {
        GoatShelves x = new GoatShelves();
        bareRock(x);
        x.grass(2, 6);
        goat(x, GREY, 2, 0);
        goat(x, GREY, 2, 16);
        x.change(0, 4, 10);
        x.change(1, 4, 3);
        due(x.censor(4, 0), 2);
        due(x.censor(4, 1), 0);
        // If 0, who grazes first, is elsewhere, 1 is FED and its PAGE stays.
        x.change(0, 1, 3);
        due(x.censor(4, 1), 2);
        // 0 learns the PAGE on the DAY on which 1 forgets it, so it is lost without either of them.
        GoatShelves y = new GoatShelves();
        bareRock(y);
        goat(y, GREY, 2, 0);
        goat(y, GREY, 2, 16);
        y.change(1, 4, 3);
        due(y.ahead(0, 2, 1), 16);
        due(y.censor(4, 1), 1);
    }

    private static void kinds() {
        at = "24 kinds";
        GoatShelves x = new GoatShelves();
        x.goat(GREY, 5);
        due(x.kinds(0, 0), MISSING);
        due(x.kinds(0, 8), MISSING);
        sheet(x, 0, 8);
        due(x.kinds(0, 0), 127);
        sheet(x, 0, 8, 5, 6);
        due(x.kinds(0, 0), 1 << WHITE);
        sheet(x, 0, 16, 5, 4);
        due(x.kinds(0, 0), 1 << OLD);
        sheet(x, 0, 32, 5, 5);
        due(x.kinds(0, 0), 79);
        sheet(x, 0, 8, 255, -1);
        due(x.kinds(0, 0), 127);
        sheet(x, 0, 8, 4);
        due(x.kinds(0, 0), 0);
        sheet(x, 0, 8, -2);
        due(x.kinds(0, 0), 0);
        sheet(x, 0, 16, -1, -1, -1, 8);
        due(x.kinds(0, 0), 1 << WHITE);
        due(x.kinds(0, 1), BEYOND);
        due(x.kinds(0, -1), BEYOND);
        due(x.kinds(4, 0), BEYOND);
        due(x.kinds(-1, 0), BEYOND);
        due(x.of(0, 0), GREY);
        due(x.count(0), 0);
    }

    private static void fits() {
        at = "25 fits";
        GoatShelves x = new GoatShelves();
        x.goat(GREY, 5);
        x.grass(3, 0);
        due(x.fits(3, 0), MISSING);
        sheet(x, 3, 32);
        due(x.fits(3, 0), 4095);
        sheet(x, 3, 8, 30, 33);
        due(x.fits(3, 0), 4095 - 8);
        sheet(x, 3, 8, 30, 27);
        due(x.fits(3, 0), 8);
        sheet(x, 3, 8, -1, 27, 26);
        due(x.fits(3, 0), 8);
        sheet(x, 3, 8, 29);
        due(x.fits(3, 0), 0);
        due(x.fits(3, 1), BEYOND);
        due(x.fits(3, -1), BEYOND);
        due(x.fits(4, 0), BEYOND);
        due(x.fits(-1, 0), BEYOND);
        due(x.of(0, 1), 5);
        due(x.of(0, 4), 30);
    }

    private static void slips() {
        at = "26 slips";
        GoatShelves x = new GoatShelves();
        due(x.slips(0), BEYOND);
        due(x.slips(21), BEYOND);
        due(x.slips(-1), BEYOND);
        due(x.count(6), 1);
        goat(x, GREY, 7, 9);
        // z is 1103527590 then -1770082073: the draws give 4310654, by 12 it is 2, and 9862832, by 8 it is 0.
        due(x.slips(1), 9);
        due(x.count(6), -1770082073);
        due(x.count(0), 1);
        due(x.ledge(2, 0), 2);
        due(x.of(0, 1), 0);
        due(x.ledge(0, 0), 20 - 6 + 2);
        due(x.slips(20), 9);
        due(x.count(0), 21);
        GoatShelves y = new GoatShelves();
        due(y.slips(2), 0);
        due(y.count(0), 2);
        due(y.ledge(2, 0), 4);
        due(y.status(-1), 0);
    }

    private static void odds() {
        at = "27 odds";
        GoatShelves x = new GoatShelves();
        due(x.odds(0, 0), 1);
        due(x.odds(0, 1), 1);
        due(x.odds(1, 0), 0);
        due(x.odds(15, 1), 1);
        goat(x, GREY, 0, 1);
        due(x.odds(15, 0), 1);
        due(x.odds(15, 1), 1L << 60);
        goat(x, GREY, 5, 0xFFF0);
        due(x.odds(1, 0), 13);
        due(x.odds(2, 1), 256);
        x.change(0, 2, 0);
        due(x.odds(15, 0), 14348907);
        due(x.odds(15, 1), 1 << 30);
        x.change(0, 2, 15);
        due(x.odds(15, 0), 1);
        due(x.odds(15, 1), 1);
        due(x.odds(16, 0), BEYOND);
        due(x.odds(-1, 0), BEYOND);
        due(x.odds(0, 2), BEYOND);
        due(x.odds(0, -1), BEYOND);
    }

    private static void seed() {
        at = "28 seed";
        GoatShelves x = new GoatShelves();
        due(x.seed(LEAST), 1);
        due(x.seed(-1000001), LEAST);
        due(x.count(6), -1000001);
        due(x.seed(0), -1000001);
        due(x.status(-1), 0);
        x.slips(1);
        due(x.count(6), 12345 * 1103515245 + 12345);
    }

    private static void feed() {
        at = "29 feed";
        GoatShelves x = new GoatShelves();
        due(x.feed(0, 0), BEYOND);
        due(x.feed(0, 5), BEYOND);
        due(x.feed(0, -1), BEYOND);
        due(x.feed('s' << 24 | 'a' << 16 | 'l' << 8 | 't', 4), 4);
        due(x.feed(-1 << 24 | '1' << 16 | '2' << 8 | '3', 3), 7);
        due(x.feed(0x7777 << 16 | ' ' << 8 | ';', 2), 9);
        due(x.feed(0x777777 << 8 | 'k', 1), 10);
        due(x.feed('i' << 8 | 'd', 2), 12);
        due(x.text(), 2);
        due(x.count(3), 123);
        for (int i = 1; i <= 29; i++) {
            due(x.feed(0, 4), 4 * i);
        }
        due(x.feed(0, 2), 118);
        due(x.feed(0, 3), FULL);
        due(x.feed(0, 5), BEYOND);
        due(x.count(5), 118);
        due(x.feed(0, 2), 120);
        due(x.feed(0, 1), FULL);
        due(x.status(1), 2);
    }

    private static void wipe() {
        at = "30 wipe";
        GoatShelves x = new GoatShelves();
        due(x.wipe(), 0);
        x.feed('x', 1);
        x.feed(-1, 4);
        due(x.wipe(), 5);
        due(x.wipe(), 0);
        due(x.count(5), 0);
        due(text(x, "grows 9"), 1);
        due(x.set(0, 0), 9);
    }

    private static void text() {
        at = "31 text";
        GoatShelves x = new GoatShelves();
        due(text(x, "goat on 1 knows 1 fed 1;nanny on 2;billy knows 65535"), 3);
        due(text(x, "grey fed 99 ; old on11knows0fed0;  white"), 3);
        due(text(x, "kid on 007 fed 007"), 1);
        int[] kinds = {GOAT, NANNY, BILLY, GREY, OLD, WHITE, KID};
        int[] ledges = {1, 2, 0, 0, 11, 0, 7};
        int[] knows = {1, 0, 65535, 0, 0, 0, 0};
        int[] fed = {1, 30, 30, 99, 0, 30, 7};
        for (int g = 0; g < 7; g++) {
            due(x.of(g, 0), kinds[g]);
            due(x.of(g, 1), ledges[g]);
            due(x.of(g, 2), knows[g]);
            due(x.of(g, 3), 0);
            due(x.of(g, 4), fed[g]);
        }
        due(text(x, " grass 11 99;grass 0 0;grows 20;salt 9999;salt 0 "), 5);
        due(x.ledge(11, 0), 99);
        due(x.ledge(0, 0), 0);
        due(x.set(0, 1), 20);
        due(x.count(3), 0);
        due(x.count(5), 0);
        due(text(x, "salt " + "0".repeat(111) + "9999"), 1);
        due(x.count(3), 9999);
        due(x.status(-1), 0);
    }

    private static void textFaults() {
        at = "31 text with a FAULT";
        String[] texts = {
            "", "   ", "goat;", "goat on", "goat on 12", "goat on x", "goat knows 65536", "goat fed 100", "goat fed 1 on 1",
            "goat knows 1 on 1", "goat on 1 on 1", "goats", "Goat", "grass 12 0", "grass 0 100", "grass 0", "grass 0;",
            "grows 21", "salt 10000", "salt 99999999999999999999", "salt 5 5", "salt 5,", "salt 5;;", ";", "5",
            "salt 5; sheep", "salt-5", "goaton 1", "salt 5 ; ", "salt\t5", "salt 5\u00e9", "goat 5", "on 5", "goatz", "goata",
            "salt 5\0", "\0", "salt 5/", "salt 5:", "goat`", "goat{", "salt 1;salt 2;salt 3;white on 0 knows 0 fed 0 knows 0"};
        int[] faults = {
            0, 3, 5, 7, 8, 8, 11, 9, 11, 13, 10, 0, 0, 6, 8, 7, 7, 6, 5, 5, 7, 6, 7, 0, 0, 8, 4, 0, 9, 4, 6, 5, 0, 0, 0,
            6, 0, 6, 6, 4, 4, 46};
        GoatShelves x = new GoatShelves();
        for (int i = 0; i < texts.length; i++) {
            at = "31 text, \"" + texts[i] + "\"";
            due(text(x, texts[i]), -1 - faults[i]);
            due(x.count(5), 0);
            if (i % 10 == 9) {
                due(x.count(1), 0);
                due(x.count(3), 50);
                due(x.count(4), 240);
                due(x.status(-1), 0);
                x = new GoatShelves();
            }
        }
        at = "31 text, too many";
        x = new GoatShelves();
        for (int g = 0; g < 7; g++) {
            x.goat(GREY, 0);
        }
        due(text(x, "salt 3;kid; kid on 99"), -13);
        due(x.count(1), 7);
        due(x.count(3), 50);
        due(text(x, "kid"), 1);
        due(text(x, "kid"), -1);
        due(x.status(-1), 0);
    }

    private static void hold() {
        at = "32 hold";
        GoatShelves x = new GoatShelves();
        due(x.hold(0, 0), BEYOND);
        due(x.hold(0, -1), 1);
        due(x.count(7), 0);
        x.goat(GREY, 0);
        due(x.hold(0, 0), 1);
        due(x.hold(9, 0), 1);
        due(x.count(7), 2);
        due(x.hold(10, 0), BEYOND);
        due(x.hold(-1, 0), BEYOND);
        due(x.hold(0, 1), BEYOND);
        due(x.hold(0, -2), BEYOND);
        due(x.hold(9, -1), 1);
        due(x.count(7), 1);
        due(x.as(0, GREY), 0);
    }

    private static void as() {
        at = "33 as";
        GoatShelves x = new GoatShelves();
        int[] under = {1, 1 | 2, 1 | 4, 1 | 4 | 8, 1 | 4 | 8 | 16, 1 | 32, 1 | 2 | 64};
        for (int g = 0; g < 7; g++) {
            x.goat(g, 0);
            x.hold(g, g);
            for (int kind = 0; kind < 7; kind++) {
                due(x.as(g, kind), (under[g] >> kind & 1) == 1 ? g : KIND);
            }
        }
        due(x.as(7, GOAT), MISSING);
        due(x.as(7, 7), BEYOND);
        due(x.as(0, 7), BEYOND);
        due(x.as(0, -1), BEYOND);
        due(x.as(10, 0), BEYOND);
        due(x.as(-1, 0), BEYOND);
        x.change(0, 0, KID);
        due(x.as(0, NANNY), 0);
        x.hold(0, -1);
        due(x.as(0, GOAT), MISSING);
    }

    private static void sheet() {
        at = "34 sheet";
        GoatShelves x = new GoatShelves();
        due(x.sheet(4, 8, -1), BEYOND);
        due(x.sheet(-1, 8, 1), BEYOND);
        due(x.sheet(0, 7, -1), BEYOND);
        due(x.sheet(0, 64, 1), BEYOND);
        due(x.sheet(0, -8, 1), BEYOND);
        due(x.sheet(0, 8, -1), SIZE);
        due(x.sheet(0, 0, -1), SIZE);
        due(x.sheet(0, 8, 41), BEYOND);
        due(x.sheet(0, 0, 41), BEYOND);
        due(x.load(0), MISSING);
        due(x.sheet(0, 8, 40), 40);
        due(x.write(0, 39, 1), 1);
        due(x.write(0, 0, 100), 1);
        due(x.load(0), 0);
        due(x.sheet(0, 16, 12), 12);
        due(x.load(0), 12);
        due(x.count(4), 0);
        due(x.sheet(3, 32, 0), 0);
        due(x.load(3), 0);
        due(x.sheet(0, 0, 5), 0);
        due(x.write(0, 0, 0), MISSING);
        due(x.sheet(0, 32, 1), 1);
        due(x.write(0, 1, 0), BEYOND);
    }

    private static void write() {
        at = "35 write";
        GoatShelves x = new GoatShelves();
        due(x.write(4, 0, 0), BEYOND);
        due(x.write(-1, 0, 0), BEYOND);
        due(x.write(0, 99, 0), MISSING);
        for (int g = 0; g < 3; g++) {
            x.goat(GREY, 0);
        }
        x.change(0, 2, 127);
        int[] bits = {8, 16, 32};
        int[] fits = {127, 32767, 65535};
        int[] tooMuch = {128, 32768, 65536};
        for (int i = 0; i < 3; i++) {
            x.sheet(0, bits[i], 1);
            x.change(0, 2, fits[i]);
            due(x.write(0, 0, fits[i]), 1);
            due(x.judge(0), 0);
            x.change(0, 2, tooMuch[i] & 65535);
            due(x.write(0, 0, tooMuch[i]), 1);
            due(x.judge(0), 1);
            due(x.write(0, 1, 0), BEYOND);
            due(x.write(0, -1, 0), BEYOND);
        }
        x.change(0, 2, 5);
        x.sheet(0, 8, 1);
        due(x.write(0, 0, 256 * 77 + 5), 1);
        due(x.judge(0), 0);
        x.sheet(0, 16, 1);
        due(x.write(0, 0, 65536 * -77 + 5), 1);
        due(x.judge(0), 0);
    }

    private static void copy() {
        at = "36 copy";
        GoatShelves x = new GoatShelves();
        due(x.copy(4, 0, 0, 0, 0), BEYOND);
        due(x.copy(0, 0, 4, 0, 0), BEYOND);
        due(x.copy(-1, 0, 0, 0, 0), BEYOND);
        due(x.copy(0, 0, -1, 0, 0), BEYOND);
        due(x.copy(0, 0, 1, 0, 0), MISSING);
        sheet(x, 0, 8, 1, 2, 3, 4, 5);
        due(x.copy(0, -1, 1, 0, 0), MISSING);
        due(x.copy(1, 0, 0, 0, 0), MISSING);
        x.sheet(1, 16, 3);
        due(x.copy(0, -1, 1, 0, 0), KIND);
        x.sheet(1, 8, 3);
        due(x.copy(0, -1, 1, 0, 1), BEYOND);
        due(x.copy(0, 0, 1, -1, 1), BEYOND);
        due(x.copy(0, 0, 1, 0, -1), BEYOND);
        due(x.copy(0, 0, 1, 0, 4), BEYOND);
        due(x.copy(0, 4, 1, 0, 2), BEYOND);
        due(x.copy(0, 6, 1, 0, 0), BEYOND);
        due(x.copy(0, MOST, 1, 0, MOST), BEYOND);
        due(x.copy(0, 0, 1, MOST, 1), BEYOND);
        due(x.copy(0, 5, 1, 3, 0), 0);
        due(x.copy(0, 0, 0, 0, 5), 5);
        due(x.copy(0, 3, 1, 1, 2), 2);
        due(x.load(1), 3);
        due(x.ledge(0, 0), 0);
        due(x.ledge(1, 0), 4);
        due(x.ledge(2, 0), 5);
        due(x.copy(0, 0, 0, 1, 4), 4);
        due(x.load(0), 5);
        int[] up = {1, 1, 2, 3, 4};
        for (int i = 0; i < 5; i++) {
            due(x.ledge(i, 0), up[i]);
        }
        due(x.copy(0, 2, 0, 0, 3), 3);
        x.load(0);
        int[] down = {2, 3, 4, 3, 4};
        for (int i = 0; i < 5; i++) {
            due(x.ledge(i, 0), down[i]);
        }
    }

    private static void load() {
        at = "37 load";
        GoatShelves x = new GoatShelves();
        due(x.load(0), MISSING);
        due(x.load(4), BEYOND);
        due(x.load(-1), BEYOND);
        sheet(x, 0, 8, 0, 99, 5, 100, 7);
        due(x.load(0), 3);
        due(x.ledge(0, 0), 0);
        due(x.ledge(1, 0), 99);
        due(x.ledge(2, 0), 5);
        due(x.ledge(3, 0), 20);
        due(x.ledge(4, 0), 20);
        sheet(x, 0, 8, -1, 1);
        due(x.load(0), 0);
        due(x.ledge(0, 0), 0);
        x.sheet(0, 32, 40);
        due(x.load(0), 12);
        due(x.count(4), 0);
    }

    private static void judge() {
        at = "38 judge";
        GoatShelves x = new GoatShelves();
        due(x.judge(0), MISSING);
        due(x.judge(4), BEYOND);
        due(x.judge(-1), BEYOND);
        sheet(x, 0, 32);
        due(x.judge(0), 0);
        sheet(x, 0, 32, 0);
        due(x.judge(0), 1);
        goat(x, GREY, 0, 65535);
        goat(x, GREY, 0, 6);
        goat(x, GREY, 0, 0);
        sheet(x, 0, 32, 65535, 6);
        due(x.judge(0), 0);
        sheet(x, 0, 32, 65535, 6, 0);
        due(x.judge(0), 0);
        sheet(x, 0, 32, 65535, 6, 0, 0);
        due(x.judge(0), 4);
        sheet(x, 0, 32, 65535, 7, 1);
        due(x.judge(0), 2);
        sheet(x, 0, 16, 65535);
        due(x.judge(0), 1);
        due(x.status(-1), 3);
    }

    private static void image() {
        at = "39 image";
        GoatShelves x = new GoatShelves();
        goat(x, NANNY, 3, 9);
        x.change(0, 5, 8);
        x.hold(4, 0);
        x.set(0, 7);
        x.set(1, 77);
        x.seed(777);
        x.grass(11, 78);
        x.go(2);
        due(x.image(), 1);
        int[] goat = new int[6];
        for (int what = 0; what < 6; what++) {
            goat[what] = x.of(0, what);
        }
        int grass = x.count(4);
        x.birth(0);
        x.hold(5, 1);
        x.hold(4, -1);
        x.set(0, 8);
        x.set(1, 88);
        x.seed(888);
        for (int what = 0; what < 6; what++) {
            x.change(0, what, 1 + what);
        }
        x.slips(3);
        x.sheet(0, 8, 2);
        x.feed(0, 3);
        due(x.undo(), 2);
        for (int what = 0; what < 6; what++) {
            due(x.of(0, what), goat[what]);
        }
        int[] counts = {2, 1, 2, 77, grass, 3, 777, 1};
        for (int what = 0; what < 8; what++) {
            due(x.count(what), counts[what]);
        }
        due(x.as(4, NANNY), 0);
        due(x.load(0), 2);
        due(x.set(0, 0), 7);
    }

    private static void undo() {
        at = "40 undo";
        GoatShelves x = new GoatShelves();
        due(x.undo(), NONE);
        x.image();
        x.go(5);
        due(x.undo(), 0);
        due(x.count(0), 0);
        x.go(6);
        x.image();
        x.go(1);
        due(x.undo(), 6);
        x.go(1);
        due(x.undo(), 6);
        due(x.now(0), 6);
        x.grass(0, 1);
        x.undo();
        due(x.ledge(0, 0), 32);
        due(x.status(-1), 1);
    }

    private static void tear() {
        at = "41 tear";
        GoatShelves x = new GoatShelves();
        due(x.tear(), 0);
        x.image();
        x.image();
        due(x.tear(), 1);
        due(x.tear(), 0);
        due(x.undo(), NONE);
        x.image();
        x.undo();
        due(x.tear(), 1);
    }

    private static void count() {
        at = "42 count";
        GoatShelves x = new GoatShelves();
        goat(x, GREY, 0, 3);
        goat(x, GREY, 9, 6);
        x.set(1, 9);
        x.feed(0, 4);
        x.seed(-5);
        x.hold(1, 1);
        x.hold(2, 1);
        x.grass(1, 0);
        int[] counts = {0, 2, 3, 9, 220, 4, -5, 2};
        for (int what = 0; what < 8; what++) {
            due(x.count(what), counts[what]);
        }
        due(x.count(8), BEYOND);
        due(x.count(-1), BEYOND);
        x.go(1);
        due(x.count(0), 1);
    }

    private static void status() {
        at = "43 status";
        GoatShelves x = new GoatShelves();
        due(x.status(7), BEYOND);
        due(x.status(0), 1);
        due(x.status(-2), BEYOND);
        due(x.status(0), 2);
        due(x.odds(99, 0), BEYOND);
        due(x.ask(0), NONE);
        for (int g = 0; g < 8; g++) {
            x.goat(GOAT, 0);
        }
        x.image();
        due(x.goat(0, 0), FULL);
        x.change(0, 2, 1);
        x.set(1, 0);
        due(x.ask(0), STATE);
        due(x.as(0, 0), MISSING);
        x.hold(0, 0);
        due(x.as(0, KID), KIND);
        due(x.sheet(0, 8, -9), SIZE);
        due(x.sheet(0, 0, -9), SIZE);
        int[] counts = {3, 1, 1, 1, 1, 1, 2};
        for (int which = 0; which < 7; which++) {
            due(x.status(which), counts[which]);
        }
        x.undo();
        due(x.status(-1), 10);
        due(x.text(), -1);
        due(x.now(6), 0);
        due(x.status(-1), 10);
    }
}
