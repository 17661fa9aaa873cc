/** Sentences of "What it is" and of "Terms", but for those of THE TAPE: each named by a promise in which it shows. */
final class TermEdges extends Edges {
    private TermEdges() {
    }

    static void all() {
        calls();
        findings();
        zIsNoFinding();
        quotients();
        sets();
        leastNumber();
        ledges();
        growsAndSalt();
        pages();
        mostGoats();
        kinds();
        traits();
        quotesOfUpperKinds();
        quotesOfLowerKinds();
        costs();
        grazes();
        climbsOfGoat();
        climbsOfBilly();
        climbsOfOthers();
        dayGrazing();
        dayLearning();
        dayForgetting();
        dayAging();
        dayGrowing();
        dayNumber();
        outOfPrint();
        draws();
        spots();
        sheets();
    }

    private static void calls() {
        term(10, "An object is used for at most 512 calls after it has been made; what later calls answer is free.");
        GoatShelves x = new GoatShelves();
        due(x.goat(WHITE, 0), 0);
        for (int call = 2; call < 511; call++) {
            x.go(60);
        }
        due(x.of(0, 1), 11);
        due(x.count(0), 509 * 60);
    }

    private static void findings() {
        term(43, "FINDINGS are answers below -1000000: LOW is -1000001; LOW BEYOND, LOW - 1 FULL, LOW - 2 KIND, "
            + "LOW - 3 NONE, LOW - 4 STATE, LOW - 5 MISSING, LOW - 6 SIZE (in longs, too).");
        GoatShelves x = new GoatShelves();
        due(x.ask(0), -1000004);
        dueCounts(x, 0, 0, 0, 1, 0, 0, 0);
        crowd(x, GOAT, 0);
        due(x.goat(GOAT, 12), -1000001);
        due(x.goat(GOAT, 11), -1000002);
        x.hold(9, 7);
        due(x.as(9, KID), -1000003);
        x.change(7, 2, 1);
        x.set(1, 1);
        due(x.ask(0), -1000005);
        due(x.load(3), -1000006);
        due(x.sheet(3, 8, -1), -1000007);
        dueCounts(x, 1, 1, 1, 1, 1, 1, 1);
        due(x.odds(16, 1), -1000001L);
        dueCounts(x, 2, 1, 1, 1, 1, 1, 1);
        // An answer of many bits or below 0 is no finding.
        due(x.odds(15, 1), 1L << 60);
        due(new GoatShelves().now(6), -1);
        due(x.text(), -1);
        dueCounts(x, 2, 1, 1, 1, 1, 1, 1);
    }

    private static void zIsNoFinding() {
        term(28, "What seed() and count(6) tell, z, may be any int: that is no finding.");
        GoatShelves x = new GoatShelves();
        int[] any = {LEAST, LEAST + 1, SIZE - 1, SIZE, MISSING, STATE, NONE, KIND, FULL, BEYOND, -1000000, -1, 0, 2, MOST};
        int was = 1;
        for (int z : any) {
            due(x.seed(z), was);
            due(x.count(6), z);
            was = z;
        }
        dueCounts(x, 0, 0, 0, 0, 0, 0, 0);
    }

    private static void quotients() {
        term(6, "Quotients are cut.");
        GoatShelves x = new GoatShelves();
        x.goat(KID, 11);
        due(x.of(0, 6), 6);
        due(x.of(0, 7), 3);
        goat(x, BILLY, 0, 1);
        due(x.of(1, 6), 2);
        goat(x, OLD, 0, 7);
        x.change(2, 3, 9);
        due(x.of(2, 6), 2);
        x.change(2, 3, 9999);
        due(x.of(2, 6), 1 + 1 + 999);
    }

    private static void sets() {
        term(12, "Sets (of PAGES as bits 0 to 15) are told as bits;");
        GoatShelves x = new GoatShelves();
        for (int g = 0; g < 8; g++) {
            goat(x, GREY, 11, 1 << 2 * g + 1);
        }
        due(x.who(0), 0);
        due(x.who(1), 1);
        due(x.who(15), 128);
        due(x.now(1), 0xAAAA);
        due(x.now(2), 0x5555);
        due(x.now(5), 1 << 11);
        due(x.ledge(11, 1), 255);
        due(x.ledge(11, 2), 0xAAAA);
        due(x.ledge(0, 2), 0);
        due(x.change(0, 2, 65535), 2);
        due(x.who(0), 1);
        due(x.of(0, 9), 65535);
        due(x.now(2), 0);
    }

    private static void leastNumber() {
        term(18, "of several that would do the least number counts, where nothing else is told.");
        GoatShelves x = new GoatShelves();
        goat(x, WHITE, 4, 3);
        goat(x, GOAT, 4, 5);
        goat(x, GOAT, 5, 6);
        due(x.put(0, 0), 0);
        due(x.kindFor(0, 0), GOAT);
        due(x.now(6), 0);
        due(x.ask(2), 1);
        due(x.cover(7), 3);
        due(x.censor(1, 0), 5);
        x.change(2, 2, 8);
        // Each of LEDGES 4 and 5 teaches WHITE one PAGE in a DAY if it comes there: from 3 or 4.
        x.change(1, 0, GREY);
        x.change(2, 0, GREY);
        due(x.put(0, 1), 3);
        // On a bare cliff it stays beside 1 as each KIND but OLD and WHITE: GOAT is the first of these.
        bareRock(x);
        x.change(1, 2, 4);
        x.change(0, 1, 4);
        due(x.kindFor(0, 1), GOAT);
    }

    private static void ledges() {
        term(2, "1. LEDGES 0 to 11, one above the other (11 is the topmost), each with GRASS (0 to 99; 20 at first).");
        GoatShelves x = new GoatShelves();
        for (int l = 0; l < 12; l++) {
            due(x.ledge(l, 0), 20);
            due(x.grass(l, 99), 20);
            due(x.grass(l, 100), BEYOND);
            due(x.grass(l, -1), BEYOND);
            due(x.grass(l, 0), 99);
            due(x.goat(l < 8 ? GOAT : 7, l), l < 8 ? l : BEYOND);
        }
        due(x.ledge(12, 0), BEYOND);
        due(x.ledge(-1, 0), BEYOND);
        due(x.grass(12, 1), BEYOND);
        due(x.grass(-1, 1), BEYOND);
        x.change(0, 0, WHITE);
        x.change(1, 0, OLD);
        due(x.of(0, 8), 1);
        due(x.of(1, 8), 0);
        due(x.ahead(0, 1, 100), 11);
        due(x.ahead(1, 1, 100), 0);
    }

    private static void growsAndSalt() {
        term(4, "GROWS (GRASS in a DAY, 0 to 20; 2 at first).");
        GoatShelves x = new GoatShelves();
        x.go(1);
        due(x.ledge(0, 0), 22);
        due(x.set(0, 20), 2);
        x.go(1);
        due(x.ledge(11, 0), 42);
        due(x.set(0, 21), BEYOND);
        due(x.set(0, -1), BEYOND);
        due(x.set(0, 0), 20);
        x.go(1);
        due(x.ledge(11, 0), 42);
        term(4, "SALT (0 to 9999; 50 at first).");
        due(x.count(3), 50);
        due(x.set(1, 9999), 50);
        due(x.set(1, 10000), BEYOND);
        due(x.set(1, -1), BEYOND);
        due(x.set(1, 0), 9999);
        due(x.count(3), 0);
    }

    private static void pages() {
        term(12, "PAGES 0 to 15.");
        GoatShelves x = new GoatShelves();
        goat(x, GOAT, 0, 0x8001);
        due(x.who(0), 1);
        due(x.who(15), 1);
        due(x.who(14), 0);
        due(x.who(16), BEYOND);
        due(x.who(-1), BEYOND);
        due(x.ask(0), 0);
        due(x.ask(15), 0);
        due(x.ask(16), BEYOND);
        due(x.ask(-1), BEYOND);
        due(x.learns(0, 15), 0);
        due(x.learns(0, 16), BEYOND);
        due(x.learns(0, -1), BEYOND);
        due(x.count(2), 2);
    }

    private static void mostGoats() {
        term(5, "GOATS 0, 1, .. (at most 8),");
        GoatShelves x = new GoatShelves();
        for (int g = 0; g < 8; g++) {
            due(x.of(g, 0), BEYOND);
            due(g % 2 == 0 ? x.goat(GREY, 0) : x.birth(g - 1), g);
        }
        due(x.goat(GREY, 0), FULL);
        due(x.birth(7), FULL);
        due(text(x, "grey"), -1);
        due(x.count(1), 8);
        due(x.ledge(0, 1), 255);
    }

    private static void kinds() {
        term(33, "of KINDS: 0 GOAT; 1 NANNY, 2 BILLY, 5 WHITE under GOAT; 3 GREY under BILLY; 4 OLD under GREY; "
            + "6 KID under NANNY;");
        int[] above = {-1, GOAT, GOAT, BILLY, GREY, GOAT, NANNY};
        GoatShelves x = new GoatShelves();
        due(x.goat(-1, 0), BEYOND);
        due(x.goat(7, 0), BEYOND);
        for (int kind = 0; kind < 7; kind++) {
            due(x.goat(kind, 0), kind);
            x.hold(kind, kind);
            int[] isSo = new int[7];
            for (int k = kind; k >= 0; k = above[k]) {
                isSo[k] = 1;
            }
            for (int k = 0; k < 7; k++) {
                due(x.as(kind, k), isSo[k] == 1 ? kind : KIND);
            }
        }
        due(x.change(0, 0, 7), BEYOND);
        due(x.change(0, 0, -1), BEYOND);
        due(x.change(0, 0, KID), GOAT);
    }

    private static void traits() {
        term(7, "each ON a LEDGE, KNOWS PAGES (a set, 0 to 65535; none at first), has an AGE in DAYS (0 to 9999; 0 at "
            + "first), is FED (0 to 99; 30 at first), was ASKED (how often; 0 to 9999; 0 at first).");
        GoatShelves x = new GoatShelves();
        x.goat(GREY, 11);
        int[] first = {GREY, 11, 0, 0, 30, 0};
        int[] most = {6, 11, 65535, 9999, 99, 9999};
        for (int what = 0; what < 6; what++) {
            due(x.of(0, what), first[what]);
            due(x.change(0, what, most[what]), first[what]);
            due(x.change(0, what, most[what] + 1), BEYOND);
            due(x.of(0, what), most[what]);
            due(x.change(0, what, 0), most[what]);
            due(x.change(0, what, -1), BEYOND);
            due(x.of(0, what), 0);
        }
    }

    private static void quotesOfUpperKinds() {
        term(6, "QUOTES (a PAGE that it KNOWS; none other): GOAT: yes.");
        GoatShelves x = new GoatShelves();
        x.goat(GOAT, 1);
        x.change(0, 4, 0);
        due(x.of(0, 9), 0);
        due(x.ask(0), NONE);
        x.change(0, 2, 0x8101);
        due(x.of(0, 9), 0x8101);
        due(x.ask(1), NONE);
        due(x.ask(15), 0);
        term(6, "NANNY: if it is FED 10 or more.");
        goat(x, NANNY, 1, 0xFFFE);
        x.change(1, 4, 10);
        due(x.of(1, 9), 0xFFFE);
        x.change(1, 4, 9);
        due(x.of(1, 9), 0);
        x.change(1, 4, 99);
        due(x.of(1, 9), 0xFFFE);
        term(6, "KID: as a NANNY, but no PAGE above 7.");
        goat(x, KID, 1, 0x0180);
        due(x.of(2, 9), 0x80);
        due(x.ask(7), 2);
        due(x.ask(8), 0);
        x.change(2, 2, 0xFFFF);
        x.change(2, 4, 10);
        due(x.of(2, 9), 0xFF);
        x.change(2, 4, 9);
        due(x.of(2, 9), 0);
        term(6, "WHITE: if its LEDGE is 11.");
        goat(x, WHITE, 10, 0xFFFF);
        due(x.of(3, 9), 0);
        x.change(3, 1, 11);
        due(x.of(3, 9), 0xFFFF);
    }

    private static void quotesOfLowerKinds() {
        term(6, "BILLY: if its LEDGE is even.");
        GoatShelves x = new GoatShelves();
        goat(x, BILLY, 0, 0xFFFF);
        for (int l = 0; l < 12; l++) {
            x.change(0, 1, l);
            due(x.of(0, 9), l % 2 == 0 ? 0xFFFF : 0);
        }
        term(6, "GREY: yes.");
        goat(x, GREY, 11, 0x8001);
        x.change(1, 4, 0);
        due(x.of(1, 9), 0x8001);
        term(6, "OLD: as a GREY one, but not, if PAGE and AGE together are a multiple of 3.");
        goat(x, OLD, 11, 0xFFFF);
        due(x.of(2, 9), 0x6DB6);
        x.change(2, 3, 1);
        due(x.of(2, 9), 0xB6DB);
        x.change(2, 3, 2);
        due(x.of(2, 9), 0xDB6D);
        x.change(2, 3, 9999);
        due(x.of(2, 9), 0x6DB6);
        x.change(0, 2, 0);
        x.change(1, 2, 0);
        due(x.ask(0), NONE);
        due(x.ask(3), NONE);
        due(x.ask(15), NONE);
        x.change(2, 3, 3);
        due(x.ask(1), 2);
    }

    private static void costs() {
        term(6, "COSTS (SALT for a PAGE): GOAT: 2. NANNY: as a GOAT, and its LEDGE. KID: half (cut) of a NANNY. "
            + "BILLY: as a GOAT, and 1 for each 2 PAGES that it KNOWS. GREY: as a BILLY, less 1. "
            + "OLD: as a GREY one, and a tenth (cut) of AGE. WHITE: 99.");
        int[] none = {2, 2, 2, 1, 1, 99, 1};
        int[] topmost = {2, 13, 2, 1, 1, 99, 6};
        int[] threePages = {2, 13, 3, 2, 2, 99, 6};
        int[] allPages = {2, 13, 10, 9, 9, 99, 6};
        int[] nine = {2, 13, 10, 9, 9, 99, 6};
        int[] ten = {2, 13, 10, 9, 10, 99, 6};
        int[] oldest = {2, 13, 10, 9, 9 + 999, 99, 6};
        int[][] due = {none, topmost, threePages, allPages, nine, ten, oldest};
        int[] what = {3, 1, 2, 2, 3, 3, 3};
        int[] v = {0, 11, 7, 65535, 9, 10, 9999};
        GoatShelves x = new GoatShelves();
        for (int kind = 0; kind < 7; kind++) {
            x.goat(kind, 0);
            for (int i = 0; i < 7; i++) {
                x.change(kind, what[i], v[i]);
                due(x.of(kind, 6), due[i][kind]);
            }
        }
    }

    private static void grazes() {
        term(6, "GRAZES (in a DAY, at most): GOAT: 5. NANNY: as a GOAT, and 2. KID: half (cut) of a NANNY. "
            + "BILLY: as a GOAT, and 1. GREY, OLD: as a BILLY. WHITE: 2.");
        int[] most = {5, 7, 6, 6, 6, 2, 3};
        for (int kind = 0; kind < 7; kind++) {
            for (int less = -1; less <= 1; less++) {
                GoatShelves x = new GoatShelves();
                bareRock(x);
                x.goat(kind, kind == WHITE ? 10 : kind == OLD ? 1 : 0);
                int to = x.of(0, 8);
                x.grass(to, most[kind] - less);
                due(x.of(0, 7), most[kind]);
                x.go(1);
                due(x.of(0, 1), to);
                due(x.of(0, 4), 30 + most[kind] - Math.max(less, 0) - 3);
                due(x.ledge(to, 0), less < 0 ? 1 : 0);
            }
        }
    }

    private static void climbsOfGoat() {
        term(6, "CLIMBS: GOAT: to the LEDGE of most GRASS of its own, the next one above and the next one below "
            + "(of several its own, then the one above).");
        int[] kinds = {GOAT, NANNY, KID};
        for (int kind : kinds) {
            GoatShelves x = new GoatShelves();
            x.goat(kind, 5);
            due(x.of(0, 8), 5);
            x.grass(7, 99);
            x.grass(3, 99);
            due(x.of(0, 8), 5);
            x.grass(4, 21);
            due(x.of(0, 8), 4);
            x.grass(6, 21);
            due(x.of(0, 8), 6);
            x.grass(5, 21);
            due(x.of(0, 8), 5);
            x.grass(5, 20);
            x.grass(4, 22);
            due(x.of(0, 8), 4);
            // Nothing is below the lowest, nor above the topmost.
            x.change(0, 1, 0);
            due(x.of(0, 8), 0);
            x.grass(0, 0);
            due(x.of(0, 8), 1);
            x.grass(1, 0);
            due(x.of(0, 8), 0);
            x.change(0, 1, 11);
            due(x.of(0, 8), 11);
            x.grass(11, 19);
            due(x.of(0, 8), 10);
            x.grass(10, 19);
            due(x.of(0, 8), 11);
        }
    }

    private static void climbsOfBilly() {
        term(6, "BILLY: as a GOAT, if DAY and its number together are even, else it stays.");
        GoatShelves x = new GoatShelves();
        x.set(0, 0);
        for (int g = 0; g < 8; g++) {
            x.goat(BILLY, 5);
        }
        for (int day = 0; day < 3; day++) {
            x.grass(6, 99);
            for (int g = 0; g < 8; g++) {
                x.change(g, 1, 5);
                due(x.of(g, 8), (day + g) % 2 == 0 ? 6 : 5);
            }
            x.go(1);
            for (int g = 0; g < 8; g++) {
                due(x.of(g, 1), (day + g) % 2 == 0 ? 6 : 5);
            }
        }
    }

    private static void climbsOfOthers() {
        term(6, "GREY: it stays.");
        GoatShelves x = new GoatShelves();
        x.grass(5, 0);
        x.goat(GREY, 5);
        due(x.of(0, 8), 5);
        term(6, "OLD: one down, if there is one and AGE is a multiple of 5, else it stays.");
        x.goat(OLD, 5);
        int[] ages = {0, 1, 4, 5, 6, 9, 10, 9995, 9999};
        for (int age : ages) {
            x.change(1, 3, age);
            x.change(1, 1, 5);
            due(x.of(1, 8), age % 5 == 0 ? 4 : 5);
            x.change(1, 1, 0);
            due(x.of(1, 8), 0);
        }
        x.change(1, 1, 1);
        x.change(1, 3, 0);
        due(x.of(1, 8), 0);
        term(6, "WHITE: one up, if there is one.");
        x.goat(WHITE, 0);
        for (int l = 0; l < 12; l++) {
            x.change(2, 1, l);
            due(x.of(2, 8), l < 11 ? l + 1 : 11);
        }
        term(6, "(Others as a GOAT.)");
        x.goat(NANNY, 5);
        x.goat(KID, 5);
        due(x.of(3, 8), 6);
        due(x.of(4, 8), 6);
    }

    private static void dayGrazing() {
        term(10, "2. A DAY goes by: (1) GOATS by numbers: one CLIMBS; it GRAZES (no more than there is): FED is so much "
            + "more (99 at most), GRASS less; then FED is 3 less (0 at least).");
        GoatShelves x = new GoatShelves();
        bareRock(x);
        x.grass(3, 7);
        x.grass(5, 5);
        x.goat(GREY, 3);
        x.goat(GOAT, 4);
        x.goat(GREY, 3);
        x.change(2, 4, 2);
        x.go(1);
        // 0 grazes before 1 CLIMBS: so it goes up, not down; then 2 has what is left.
        due(x.of(0, 4), 30 + 6 - 3);
        due(x.of(1, 1), 5);
        due(x.of(1, 4), 30 + 5 - 3);
        due(x.of(2, 4), 0);
        due(x.ledge(3, 0), 0);
        due(x.ledge(5, 0), 0);
        x.change(0, 4, 3);
        x.change(1, 4, 1);
        x.change(2, 4, 4);
        x.go(1);
        due(x.of(0, 4), 0);
        due(x.of(1, 4), 0);
        due(x.of(2, 4), 1);
        int[] before = {92, 93, 94, 98, 99};
        int[] behind = {95, 96, 96, 96, 96};
        for (int i = 0; i < before.length; i++) {
            x.change(0, 4, before[i]);
            x.grass(3, 6);
            x.go(1);
            due(x.of(0, 4), behind[i]);
            due(x.ledge(3, 0), 0);
        }
    }

    private static void dayLearning() {
        term(10, "(2) GOATS by numbers: one that is FED 20 or more learns the least PAGE that it doesn't KNOW of those that "
            + "other GOATS ON its LEDGE KNOW (by how all is then);");
        int[] before = {0, 22, 23, 99};
        for (int fed : before) {
            GoatShelves x = new GoatShelves();
            bareRock(x);
            goat(x, GREY, 7, 1);
            goat(x, GREY, 7, 0x8003);
            goat(x, GREY, 8, 4);
            goat(x, GREY, 6, 4);
            x.change(0, 4, fed);
            x.go(1);
            int learnt = fed >= 23 ? 3 : fed == 0 ? 0 : 1;
            due(x.of(0, 2), learnt);
            due(x.of(1, 2), 0x8003);
        }
        // Who has CLIMBED on to another LEDGE by then doesn't teach, who has come does.
        GoatShelves y = new GoatShelves();
        y.set(0, 20);
        goat(y, GREY, 7, 2);
        goat(y, GREY, 7, 6);
        goat(y, WHITE, 6, 0x8000);
        due(y.go(1), 0x8006);
        due(y.of(0, 2), 6);
        due(y.of(1, 2), 0x8006);
        due(y.of(2, 2), 0x8002);
        GoatShelves w = new GoatShelves();
        goat(w, GREY, 7, 2);
        goat(w, WHITE, 7, 4);
        w.go(1);
        due(w.of(0, 2), 2);
        due(w.of(1, 2), 4);
        // Alone, or among those who KNOW no more, it learns nothing.
        GoatShelves z = new GoatShelves();
        z.set(0, 20);
        goat(z, GREY, 0, 0x10);
        due(z.ahead(0, 2, 100), 0x10);
        goat(z, GREY, 0, 0x10);
        goat(z, GREY, 0, 0);
        due(z.go(1), 0x10);
        due(z.of(2, 2), 0x10);
        due(z.ahead(0, 2, 100), 0x10);
        goat(z, GREY, 0, 0x8000);
        z.change(0, 2, 0x7FFF);
        due(z.ahead(0, 2, 1), 65535);
        due(z.ahead(0, 2, 2), 65535);
    }

    private static void dayForgetting() {
        term(10, "one that is FED 0 forgets the greatest PAGE that it KNOWS.");
        GoatShelves x = new GoatShelves();
        bareRock(x);
        goat(x, GREY, 7, 0x8101);
        x.change(0, 4, 4);
        due(x.go(1), 0x8101);
        due(x.go(1), 0x0101);
        due(x.go(1), 1);
        due(x.go(1), 0);
        due(x.go(1), 0);
        goat(x, GREY, 7, 0);
        x.change(1, 4, 99);
        x.change(0, 2, 65535);
        // 0 forgets first: 15 is gone when 1 would learn, and 0 is the least.
        due(x.go(1), 0x7FFF);
        due(x.of(1, 2), 1);
        // By numbers: 1 learns from 2 before that forgets, 0 before both.
        GoatShelves y = new GoatShelves();
        bareRock(y);
        goat(y, GREY, 7, 4);
        goat(y, GREY, 7, 0);
        goat(y, GREY, 7, 8);
        y.change(0, 4, 3);
        y.change(2, 4, 1);
        due(y.go(1), 8);
        due(y.of(0, 2), 0);
        due(y.of(1, 2), 8);
        due(y.of(2, 2), 0);
    }

    private static void dayAging() {
        term(10, "AGE is 1 more (9999 at most).");
        GoatShelves x = new GoatShelves();
        x.goat(OLD, 11);
        x.goat(GREY, 11);
        x.change(1, 3, 9998);
        x.go(1);
        due(x.of(0, 3), 1);
        due(x.of(1, 3), 9999);
        x.go(1);
        due(x.of(0, 3), 2);
        due(x.of(1, 3), 9999);
        due(x.ahead(0, 3, 100), 102);
        due(x.ahead(1, 3, 100), 9999);
        // AGE is 1 more only when it has CLIMBED: by 4 it still stays.
        x.change(0, 3, 4);
        x.change(0, 1, 5);
        due(x.ahead(0, 1, 1), 5);
        due(x.ahead(0, 1, 2), 4);
    }

    private static void dayGrowing() {
        term(10, "(3) GRASS of all LEDGES is GROWS more (99 at most).");
        GoatShelves x = new GoatShelves();
        x.grass(0, 97);
        x.grass(5, 98);
        x.grass(11, 99);
        x.go(1);
        due(x.ledge(0, 0), 99);
        due(x.ledge(5, 0), 99);
        due(x.ledge(11, 0), 99);
        due(x.ledge(4, 0), 22);
        due(x.now(3), 3 * 99 + 9 * 22);
        x.set(0, 20);
        x.go(60);
        due(x.now(3), 12 * 99);
        // It is grazed before it grows.
        GoatShelves y = new GoatShelves();
        y.goat(GREY, 11);
        y.grass(11, 0);
        y.go(1);
        due(y.of(0, 4), 27);
        due(y.ledge(11, 0), 2);
    }

    private static void dayNumber() {
        term(10, "DAY is one more (99999 at most).");
        GoatShelves x = new GoatShelves();
        due(x.count(0), 0);
        x.go(1);
        due(x.count(0), 1);
        x.go(60);
        due(x.now(0), 61);
        x.slips(20);
        due(x.now(0), 81);
        // A look ahead from the last DAY: for the BILLY 1 it stays even, so it climbs one up each time.
        passDaysUntil(x, 99999);
        bareRock(x);
        for (int l = 0; l < 12; l++) {
            x.grass(l, l);
        }
        x.goat(GREY, 0);
        x.goat(BILLY, 0);
        due(x.ahead(1, 1, 1), 1);
        due(x.ahead(1, 1, 2), 2);
        due(x.ahead(1, 1, 9), 9);
        due(x.count(0), 99999);
    }

    private static void outOfPrint() {
        term(11, "OUT OF PRINT: a PAGE that no GOAT KNOWS.");
        GoatShelves x = new GoatShelves();
        due(x.now(2), 65535);
        due(x.lost(0), 0);
        due(x.lost(15), 0);
        // WHITE doesn't QUOTE it, but KNOWS it: that is enough.
        goat(x, WHITE, 0, 0x8001);
        due(x.of(0, 9), 0);
        due(x.now(2), 0x7FFE);
        x.change(0, 2, 65535);
        due(x.now(2), 0);
    }

    private static void draws() {
        term(26, "DRAWS: z is told (1 at first); each makes it z * 1103515245 + 12345 (an int), and gives z >>> 8.");
        GoatShelves x = new GoatShelves();
        due(x.count(6), 1);
        x.slips(1);
        due(x.count(6), (1103515245 + 12345) * 1103515245 + 12345);
        // Two draws for each: z wraps around as an int, also from the least and the greatest.
        int[] from = {LEAST, -1, 0, MOST};
        for (int z : from) {
            x.seed(z);
            x.slips(1);
            due(x.count(6), (z * 1103515245 + 12345) * 1103515245 + 12345);
        }
        // From 3 the first z is -984409216: -984409216 >>> 8 is 12931867, by 12 it is 7. With >> it were below 0.
        GoatShelves y = new GoatShelves();
        int z = 3;
        y.seed(z);
        y.set(0, 0);
        y.slips(1);
        int first = (int) ((z * 1103515245L + 12345 & 0xFFFFFFFFL) / 256 % 12);
        for (int l = 0; l < 12; l++) {
            due(y.ledge(l, 0), l == first ? 0 : 20);
        }
        due((int) (z * 1103515245L + 12345) < 0 ? 1 : 0, 1);
    }

    private static void spots() {
        term(32, "SPOTS 0 to 9 hold a GOAT or nothing (at first).");
        GoatShelves x = new GoatShelves();
        x.goat(KID, 0);
        due(x.count(7), 0);
        for (int spot = 0; spot < 10; spot++) {
            due(x.as(spot, GOAT), MISSING);
            due(x.hold(spot, 0), 1);
            due(x.count(7), spot + 1);
            due(x.as(spot, GOAT), 0);
        }
        due(x.hold(10, 0), BEYOND);
        due(x.hold(-1, 0), BEYOND);
        due(x.as(10, GOAT), BEYOND);
        due(x.as(-1, GOAT), BEYOND);
        due(x.count(7), 10);
    }

    private static void sheets() {
        term(34, "SHEETS 0 to 3: rows of at most 40 numbers of 8, 16 or 32 bits (told with their sign: of 8 bits 255 is "
            + "-1), or MISSING (at first).");
        GoatShelves x = new GoatShelves();
        x.goat(GREY, 0);
        for (int s = 0; s < 4; s++) {
            due(x.judge(s), MISSING);
            for (int bits = 8; bits <= 32; bits *= 2) {
                due(x.sheet(s, bits, 41), BEYOND);
                due(x.sheet(s, bits, 40), 40);
                due(x.write(s, 39, 1), 1);
                due(x.write(s, 40, 1), BEYOND);
            }
            due(x.sheet(s, 0, 40), 0);
            due(x.judge(s), MISSING);
        }
        due(x.sheet(4, 8, 1), BEYOND);
        due(x.sheet(-1, 8, 1), BEYOND);
        // -1 tells any LEDGE; another number below 0, or one above 11, none.
        sheet(x, 0, 8, 255);
        due(x.kinds(0, 0), 127);
        sheet(x, 0, 8, 254);
        due(x.kinds(0, 0), 0);
        sheet(x, 0, 8, 256);
        due(x.kinds(0, 0), 127);
        x.change(0, 1, 1);
        due(x.kinds(0, 0), 0);
        sheet(x, 0, 16, 255);
        due(x.kinds(0, 0), 0);
        sheet(x, 0, 16, 65535);
        due(x.kinds(0, 0), 127);
        sheet(x, 0, 32, 65535);
        due(x.kinds(0, 0), 0);
        sheet(x, 0, 32, -1);
        due(x.kinds(0, 0), 127);
        x.change(0, 2, 0x80);
        sheet(x, 0, 8, 128);
        due(x.judge(0), 1);
        sheet(x, 0, 16, 128);
        due(x.judge(0), 0);
        x.change(0, 2, 0x8000);
        sheet(x, 0, 16, 0x8000);
        due(x.judge(0), 1);
        sheet(x, 0, 32, 0x8000);
        due(x.judge(0), 0);
    }
}
