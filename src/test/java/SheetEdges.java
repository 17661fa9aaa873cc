/** Sentences of promises 32 to 43: spots, sheets, images. */
final class SheetEdges extends Edges {
    private static final int[] NO_SHEETS = {LEAST, -1, 4, MOST};

    private SheetEdges() {
    }

    static void all() {
        hold();
        as();
        sheet();
        sheetRefused();
        write();
        copy();
        copyRefused();
        load();
        judge();
        image();
        undo();
        tear();
        count();
        status();
    }

    private static void hold() {
        sentence(32, "A SPOT holds a GOAT, or nothing (-1): 1.");
        GoatShelves x = new GoatShelves();
        due(x.hold(0, -1), 1);
        due(x.hold(9, -1), 1);
        due(x.count(7), 0);
        crowd(x, GREY, 0);
        due(x.hold(0, 7), 1);
        due(x.hold(9, 0), 1);
        due(x.as(0, GREY), 7);
        due(x.as(9, GREY), 0);
        due(x.hold(0, 1), 1);
        due(x.as(0, GREY), 1);
        due(x.hold(1, 1), 1);
        due(x.count(7), 3);
        due(x.hold(0, -1), 1);
        due(x.as(0, GREY), MISSING);
        due(x.as(1, GREY), 1);
        due(x.count(7), 2);
        sentence(32, "BEYOND.");
        int[] noSpots = {LEAST, -1, 10, MOST};
        int[] noGoats = {LEAST, -2, 8, MOST};
        for (int i = 0; i < 4; i++) {
            due(x.hold(noSpots[i], 0), BEYOND);
            due(x.hold(noSpots[i], -1), BEYOND);
            due(x.hold(9, noGoats[i]), BEYOND);
        }
        due(x.as(9, GREY), 0);
        GoatShelves y = new GoatShelves();
        due(y.hold(0, 0), BEYOND);
        y.goat(GREY, 0);
        due(y.hold(0, 0), 1);
        due(y.hold(0, 1), BEYOND);
        due(y.as(0, GREY), 0);
        dueCounts(x, 12, 0, 0, 0, 0, 1, 0);
    }

    private static void as() {
        sentence(33, "What a SPOT holds as one of a kind (0 to 6): the number of the GOAT.");
        GoatShelves x = new GoatShelves();
        for (int kind = 0; kind < 7; kind++) {
            x.goat(kind, 0);
            x.hold(9 - kind, kind);
            due(x.as(9 - kind, kind), kind);
            due(x.as(9 - kind, GOAT), kind);
        }
        sentence(33, "BEYOND.");
        int[] noSpots = {LEAST, -1, 10, MOST};
        int[] noKinds = {LEAST, -1, 7, MOST};
        for (int i = 0; i < 4; i++) {
            due(x.as(noSpots[i], GOAT), BEYOND);
            due(x.as(9, noKinds[i]), BEYOND);
            due(x.as(0, noKinds[i]), BEYOND);
        }
        sentence(33, "MISSING: it holds nothing.");
        due(x.as(0, GOAT), MISSING);
        due(x.as(2, KID), MISSING);
        x.hold(9, -1);
        due(x.as(9, GOAT), MISSING);
        dueCounts(x, 12, 0, 0, 0, 0, 3, 0);
        sentence(33, "KIND: it isn't of that kind, nor of one under it.");
        x.hold(9, GOAT);
        for (int kind = NANNY; kind < 7; kind++) {
            due(x.as(9, kind), KIND);
        }
        due(x.as(9 - OLD, BILLY), OLD);
        due(x.as(9 - OLD, NANNY), KIND);
        due(x.as(9 - GREY, OLD), KIND);
        due(x.as(9 - BILLY, GREY), KIND);
        due(x.as(9 - KID, NANNY), KID);
        due(x.as(9 - KID, BILLY), KIND);
        due(x.as(9 - NANNY, KID), KIND);
        due(x.as(9 - WHITE, NANNY), KIND);
        // Of what KIND it is now: a SPOT holds the GOAT, not what it was.
        x.change(NANNY, 0, WHITE);
        due(x.as(9 - NANNY, NANNY), KIND);
        due(x.as(9 - NANNY, WHITE), NANNY);
        dueCounts(x, 12, 0, 13, 0, 0, 3, 0);
    }

    private static void sheet() {
        sentence(34, "A sheet has n numbers, all 0, of 8, 16 or 32 bits; bits 0: it is MISSING: n (0 if it is MISSING).");
        GoatShelves x = new GoatShelves();
        for (int s = 0; s < 4; s++) {
            for (int bits = 8; bits <= 32; bits *= 2) {
                due(x.sheet(s, bits, 0), 0);
                due(x.load(s), 0);
                due(x.write(s, 0, 1), BEYOND);
                due(x.sheet(s, bits, 1), 1);
                due(x.write(s, 0, 100), 1);
                due(x.load(s), 0);
                due(x.sheet(s, bits, 40), 40);
                due(x.write(s, 39, 100), 1);
                due(x.load(s), 12);
            }
        }
        due(x.count(4), 0);
        // All 0 again, also where numbers stood before and the new row is the same, shorter or longer.
        x.goat(GREY, 0);
        x.change(0, 2, 9);
        sheet(x, 0, 16, 9, 9, 9);
        due(x.judge(0), 2);
        due(x.sheet(0, 16, 1), 1);
        due(x.judge(0), 1);
        due(x.write(0, 0, 9), 1);
        due(x.judge(0), 0);
        due(x.sheet(0, 0, 40), 0);
        due(x.judge(0), MISSING);
        due(x.sheet(0, 0, 0), 0);
        due(x.judge(0), MISSING);
        due(x.sheet(0, 8, 1), 1);
        due(x.judge(0), 1);
    }

    private static void sheetRefused() {
        sentence(34, "BEYOND: no such sheet, other bits.");
        GoatShelves x = new GoatShelves();
        sheet(x, 0, 8, 50);
        for (int s : NO_SHEETS) {
            due(x.sheet(s, 8, 1), BEYOND);
            due(x.sheet(s, 0, 0), BEYOND);
            due(x.sheet(s, 8, -1), BEYOND);
        }
        int[] otherBits = {LEAST, -8, -1, 1, 7, 9, 15, 24, 31, 33, 64, MOST};
        for (int bits : otherBits) {
            due(x.sheet(0, bits, 1), BEYOND);
            due(x.sheet(0, bits, -1), BEYOND);
            due(x.sheet(0, bits, 41), BEYOND);
        }
        dueCounts(x, 48, 0, 0, 0, 0, 0, 0);
        int[] bits = {0, 8, 16, 32};
        sentence(34, "SIZE: n is below 0 (also with bits 0).");
        for (int b : bits) {
            due(x.sheet(0, b, -1), SIZE);
            due(x.sheet(0, b, LEAST), SIZE);
        }
        sentence(34, "BEYOND: n is above 40 (also with bits 0).");
        for (int b : bits) {
            due(x.sheet(0, b, 41), BEYOND);
            due(x.sheet(0, b, MOST), BEYOND);
        }
        dueCounts(x, 56, 0, 0, 0, 0, 0, 8);
        due(x.load(0), 1);
        due(x.ledge(0, 0), 50);
    }

    private static void write() {
        sentence(35, "Number i of a sheet becomes v (its lowest bits): 1.");
        GoatShelves x = new GoatShelves();
        x.goat(GREY, 0);
        int[] bits = {8, 16, 32};
        int[] written = {0, 5, 127, 128, 255, 256, 261, 32767, 32768, 65535, 65536, 65541, LEAST, MOST, -1};
        for (int b : bits) {
            x.sheet(1, b, 1);
            for (int v : written) {
                due(x.write(1, 0, v), 1);
                int told = v << 32 - b >> 32 - b;
                x.change(0, 2, told & 65535);
                due(x.judge(1), told >= 0 && told <= 65535 ? 0 : 1);
                x.change(0, 2, told + 1 & 65535);
                due(x.judge(1), 1);
            }
        }
        x.sheet(3, 8, 40);
        due(x.write(3, 39, 1), 1);
        due(x.write(3, 0, 256 + 99), 1);
        due(x.write(3, 1, 256 + 100), 1);
        due(x.load(3), 1);
        due(x.ledge(0, 0), 99);
        sentence(35, "BEYOND: no such sheet.");
        for (int s : NO_SHEETS) {
            due(x.write(s, 0, 1), BEYOND);
        }
        sentence(35, "MISSING.");
        due(x.write(0, 0, 1), MISSING);
        due(x.write(0, -1, 1), MISSING);
        due(x.write(2, 40, 1), MISSING);
        sentence(35, "BEYOND: no such number.");
        due(x.write(1, 1, 1), BEYOND);
        due(x.write(1, -1, 1), BEYOND);
        due(x.write(3, 40, 1), BEYOND);
        due(x.write(3, LEAST, 1), BEYOND);
        due(x.write(3, MOST, 1), BEYOND);
        x.sheet(1, 8, 0);
        due(x.write(1, 0, 1), BEYOND);
        dueCounts(x, 10, 0, 0, 0, 0, 3, 0);
    }

    /** Numbers of a sheet from its begin on, as they become GRASS. */
    private static void dueNumbers(GoatShelves x, int s, int... numbers) {
        due(x.load(s), numbers.length);
        for (int i = 0; i < numbers.length; i++) {
            due(x.ledge(i, 0), numbers[i]);
        }
    }

    private static void copy() {
        sentence(36, "n numbers of a sheet from one on come to another one from one on (as they all were): n.");
        GoatShelves x = new GoatShelves();
        sheet(x, 0, 8, 1, 2, 3, 4, 5);
        sheet(x, 1, 8, 11, 12, 13);
        due(x.copy(0, 4, 1, 0, 1), 1);
        dueNumbers(x, 1, 5, 12, 13);
        due(x.copy(1, 0, 0, 2, 3), 3);
        dueNumbers(x, 0, 1, 2, 5, 12, 13);
        due(x.copy(0, 0, 0, 0, 5), 5);
        dueNumbers(x, 0, 1, 2, 5, 12, 13);
        // As they all were: up and down within one sheet.
        due(x.copy(0, 0, 0, 1, 4), 4);
        dueNumbers(x, 0, 1, 1, 2, 5, 12);
        due(x.copy(0, 1, 0, 0, 4), 4);
        dueNumbers(x, 0, 1, 2, 5, 12, 12);
        // None at all, at any place up to behind the last one.
        due(x.copy(0, 0, 1, 0, 0), 0);
        due(x.copy(0, 5, 1, 3, 0), 0);
        dueNumbers(x, 1, 5, 12, 13);
        x.sheet(2, 32, 40);
        x.sheet(3, 32, 40);
        x.write(2, 39, 7);
        x.write(2, 0, 8);
        due(x.copy(2, 0, 3, 0, 40), 40);
        due(x.copy(3, 39, 2, 0, 1), 1);
        due(x.load(2), 12);
        due(x.ledge(0, 0), 7);
        x.sheet(2, 32, 0);
        due(x.copy(2, 0, 2, 0, 0), 0);
        due(x.copy(2, 0, 3, 40, 0), 0);
        // 32 bits stay as they are.
        x.goat(GREY, 0);
        x.change(0, 2, 65535);
        sheet(x, 2, 32, 65535);
        due(x.copy(2, 0, 3, 0, 1), 1);
        sheet(x, 2, 32, 0);
        due(x.copy(3, 0, 2, 0, 1), 1);
        due(x.judge(2), 0);
        due(x.status(-1), 0);
    }

    private static void copyRefused() {
        sentence(36, "BEYOND: no such sheet (either).");
        GoatShelves x = new GoatShelves();
        for (int s : NO_SHEETS) {
            due(x.copy(s, 0, 0, 0, 0), BEYOND);
            due(x.copy(0, 0, s, 0, 0), BEYOND);
            due(x.copy(s, 0, s, 0, 0), BEYOND);
        }
        sentence(36, "MISSING: one is.");
        due(x.copy(0, 0, 1, 0, 0), MISSING);
        due(x.copy(0, -1, 0, -1, -1), MISSING);
        sheet(x, 0, 8, 1, 2, 3, 4, 5);
        due(x.copy(0, 0, 1, 0, 0), MISSING);
        due(x.copy(1, 0, 0, 0, 0), MISSING);
        sentence(36, "KIND: they are not of as many bits.");
        sheet(x, 1, 16, 11, 12, 13);
        sheet(x, 2, 32, 21, 22, 23);
        due(x.copy(0, 0, 1, 0, 1), KIND);
        due(x.copy(1, 0, 0, 0, 1), KIND);
        due(x.copy(1, 0, 2, 0, 0), KIND);
        due(x.copy(2, -1, 0, 99, -1), KIND);
        sheet(x, 1, 8, 11, 12, 13);
        sentence(36, "BEYOND: one has not so many, or from, to or n is below 0.");
        int[][] others = {
            {0, 0, 1, 0, 4}, {0, 0, 1, 1, 3}, {0, 3, 1, 0, 3}, {0, 5, 1, 0, 1}, {0, 6, 1, 0, 0}, {0, 0, 1, 3, 1},
            {0, 0, 1, 4, 0}, {1, 0, 0, 0, 4}, {1, 3, 0, 0, 1}, {1, 0, 0, 3, 3}, {0, -1, 1, 0, 1}, {0, 0, 1, -1, 1},
            {0, 0, 1, 0, -1}, {0, -1, 1, 0, 0}, {0, 0, 1, -1, 0}, {0, 2, 1, 2, -1}, {0, LEAST, 1, 0, 0},
            {0, 0, 1, LEAST, 0}, {0, 0, 1, 0, LEAST}, {0, MOST, 1, 0, 1}, {0, 0, 1, MOST, 1}, {0, 0, 1, 0, MOST},
            {0, MOST, 1, MOST, MOST}, {0, LEAST, 1, 0, LEAST}, {0, 1, 1, 1, MOST}, {0, 0, 0, 1, 5}, {0, 1, 0, 0, 5}};
        for (int[] c : others) {
            due(x.copy(c[0], c[1], c[2], c[3], c[4]), BEYOND);
        }
        dueNumbers(x, 0, 1, 2, 3, 4, 5);
        dueNumbers(x, 1, 11, 12, 13);
        dueCounts(x, 12 + others.length, 0, 4, 0, 0, 4, 0);
    }

    private static void load() {
        sentence(37, "Numbers of a sheet, from its begin on, become GRASS of LEDGES 0, 1, ..: how many came.");
        GoatShelves x = new GoatShelves();
        x.sheet(0, 8, 0);
        due(x.load(0), 0);
        due(x.count(4), 240);
        sheet(x, 0, 8, 0, 99);
        due(x.load(0), 2);
        due(x.count(4), 99 + 200);
        sentence(37, "It ends at the first that isn't 0 to 99, or for which there is no LEDGE.");
        int[] firsts = {-1, 100, 127, -128};
        for (int first : firsts) {
            sheet(x, 0, 8, 7, 8, first, 9);
            due(x.load(0), 2);
            due(x.ledge(0, 0), 7);
            due(x.ledge(1, 0), 8);
            due(x.ledge(2, 0), 20);
            due(x.ledge(3, 0), 20);
            sheet(x, 0, 8, first, 9);
            due(x.load(0), 0);
            due(x.ledge(0, 0), 7);
        }
        sheet(x, 0, 32, 98, 65536, 1);
        due(x.load(0), 1);
        for (int n = 11; n <= 13; n++) {
            x.sheet(0, 16, n);
            for (int i = 0; i < n; i++) {
                x.write(0, i, 99 - i);
            }
            due(x.load(0), Math.min(n, 12));
            due(x.ledge(10, 0), 89);
            due(x.ledge(11, 0), n == 11 ? 20 : 88);
        }
        x.sheet(0, 16, 40);
        due(x.load(0), 12);
        due(x.count(4), 0);
        sentence(37, "BEYOND: no such sheet.");
        for (int s : NO_SHEETS) {
            due(x.load(s), BEYOND);
        }
        sentence(37, "MISSING.");
        for (int s = 1; s < 4; s++) {
            due(x.load(s), MISSING);
        }
        x.sheet(0, 0, 0);
        due(x.load(0), MISSING);
        dueCounts(x, 4, 0, 0, 0, 0, 4, 0);
    }

    private static void judge() {
        sentence(38, "THE READER: numbers of a sheet are what GOATS 0, 1, .. KNOW: 0 if so; else 1 and the place of the first "
            + "that isn't so.");
        GoatShelves x = new GoatShelves();
        sheet(x, 0, 32);
        due(x.judge(0), 0);
        sheet(x, 0, 32, 0);
        due(x.judge(0), 1);
        x.sheet(1, 8, 40);
        due(x.judge(1), 1);
        for (int g = 0; g < 8; g++) {
            due(x.goat(GREY, 0), g);
            due(x.judge(1), g + 2);
        }
        // The eight are 0, and there is no ninth.
        x.sheet(1, 8, 8);
        due(x.judge(1), 0);
        for (int g = 7; g >= 0; g--) {
            x.change(g, 2, 1);
            due(x.judge(1), g + 1);
        }
        x.change(0, 2, 65535);
        sheet(x, 0, 32, 65535);
        due(x.judge(0), 0);
        sheet(x, 0, 32, 65535, 1);
        due(x.judge(0), 0);
        sheet(x, 0, 32, 65535, 2, 2);
        due(x.judge(0), 2);
        sheet(x, 0, 32, -1);
        due(x.judge(0), 1);
        sheet(x, 0, 16, 65535);
        due(x.judge(0), 1);
        due(x.status(-1), 0);
        sentence(38, "BEYOND: no such sheet.");
        for (int s : NO_SHEETS) {
            due(x.judge(s), BEYOND);
        }
        sentence(38, "MISSING.");
        due(x.judge(2), MISSING);
        due(x.judge(3), MISSING);
        x.sheet(0, 0, 9);
        due(x.judge(0), MISSING);
        dueCounts(x, 4, 0, 0, 0, 0, 3, 0);
    }

    private static void image() {
        sentence(39, "All but THE TAPE and SHEETS is kept: 1.");
        GoatShelves x = new GoatShelves();
        goat(x, OLD, 0, 0x8001);
        goat(x, WHITE, 3, 9);
        x.hold(9, 1);
        x.set(0, 20);
        x.set(1, 9999);
        x.seed(LEAST);
        x.go(60);
        x.grass(11, 0);
        for (int what = 1; what < 6; what++) {
            x.change(1, what, what * 2);
        }
        sheet(x, 0, 8, 50);
        x.feed('k' << 16 | 'i' << 8 | 'd', 3);
        due(x.image(), 1);
        crowd(x, KID, 0);
        x.hold(9, -1);
        x.hold(0, 7);
        x.set(0, 0);
        x.set(1, 0);
        x.slips(20);
        for (int what = 0; what < 6; what++) {
            x.change(1, what, 1);
            x.change(0, what, 1);
        }
        sheet(x, 0, 8, 60, 61);
        sheet(x, 1, 8, 62);
        x.wipe();
        x.feed('s', 1);
        due(x.undo(), 60);
        int[] counts = {60, 2, 3, 9999, 11 * 99, 1, LEAST, 1};
        for (int what = 0; what < 8; what++) {
            due(x.count(what), counts[what]);
        }
        int[] white = {WHITE, 2, 4, 6, 8, 10};
        for (int what = 0; what < 6; what++) {
            due(x.of(1, what), white[what]);
        }
        due(x.of(0, 0), OLD);
        due(x.of(2, 0), BEYOND);
        due(x.as(9, WHITE), 1);
        due(x.as(0, GOAT), MISSING);
        due(x.set(0, 0), 20);
        // THE TAPE and SHEETS stay as they are now.
        due(x.load(0), 2);
        due(x.load(1), 1);
        due(x.ledge(0, 0), 62);
        due(x.ledge(1, 0), 61);
        due(x.feed('a' << 16 | 'l' << 8 | 't', 3), 4);
        due(x.feed('7', 1), 5);
        due(x.text(), 1);
        due(x.count(3), 7);
    }

    private static void undo() {
        sentence(40, "It becomes what was kept latest (which stays): DAY.");
        GoatShelves x = new GoatShelves();
        x.image();
        x.go(9);
        due(x.undo(), 0);
        x.go(9);
        x.image();
        x.go(1);
        x.grass(0, 1);
        due(x.undo(), 9);
        due(x.ledge(0, 0), 38);
        x.grass(0, 2);
        x.goat(GREY, 0);
        due(x.undo(), 9);
        due(x.undo(), 9);
        due(x.ledge(0, 0), 38);
        due(x.count(1), 0);
        due(x.status(-1), 0);
        sentence(40, "NONE: nothing is kept.");
        GoatShelves y = new GoatShelves();
        y.go(3);
        due(y.undo(), NONE);
        due(y.count(0), 3);
        y.image();
        y.tear();
        y.go(1);
        due(y.undo(), NONE);
        due(y.count(0), 4);
        dueCounts(y, 0, 0, 0, 2, 0, 0, 0);
    }

    private static void tear() {
        sentence(41, "Nothing is kept: 1 if something was, else 0.");
        GoatShelves x = new GoatShelves();
        due(x.tear(), 0);
        x.image();
        due(x.tear(), 1);
        due(x.tear(), 0);
        due(x.undo(), NONE);
        // Only the latest image is kept, so two need one tear() alone.
        x.image();
        x.image();
        due(x.tear(), 1);
        due(x.tear(), 0);
        x.image();
        x.undo();
        due(x.tear(), 1);
        dueCounts(x, 0, 0, 0, 1, 0, 0, 0);
    }

    private static void count() {
        sentence(42, "0 DAY, 1 GOATS, 2 how many PAGES GOATS KNOW, 3 SALT, 4 GRASS of all LEDGES together, 5 bytes of THE TAPE, "
            + "6 z, 7 SPOTS that hold something.");
        GoatShelves x = new GoatShelves();
        int[] empty = {0, 0, 0, 50, 240, 0, 1, 0};
        for (int what = 0; what < 8; what++) {
            due(x.count(what), empty[what]);
        }
        for (int g = 0; g < 8; g++) {
            goat(x, GREY, 0, 3 << 2 * g | 1);
            x.change(g, 4, 99);
        }
        x.go(60);
        for (int l = 0; l < 12; l++) {
            x.grass(l, 99);
        }
        x.change(0, 2, 65535);
        x.set(1, 9999);
        for (int i = 0; i < 30; i++) {
            x.feed(0, 4);
        }
        x.seed(LEAST);
        for (int spot = 0; spot < 10; spot++) {
            x.hold(spot, spot % 8);
        }
        int[] full = {60, 8, 16, 9999, 1188, 120, LEAST, 10};
        for (int what = 0; what < 8; what++) {
            due(x.count(what), full[what]);
        }
        sentence(42, "BEYOND: another what.");
        int[] others = {LEAST, -1, 8, MOST};
        for (int what : others) {
            due(x.count(what), BEYOND);
        }
        dueCounts(x, 4, 0, 0, 0, 0, 0, 0);
    }

    private static void status() {
        sentence(43, "How many acts answered a finding ever (undo() takes none back): which -1: all, 0 to 6: BEYOND to SIZE.");
        GoatShelves x = new GoatShelves();
        x.image();
        dueCounts(x, 0, 0, 0, 0, 0, 0, 0);
        due(x.who(16), BEYOND);
        due(x.load(0), MISSING);
        due(x.load(0), MISSING);
        due(x.sheet(0, 8, -1), SIZE);
        due(x.growsFor(0, 0), NONE);
        due(x.odds(99, 0), BEYOND);
        dueCounts(x, 2, 0, 0, 1, 0, 2, 1);
        x.undo();
        dueCounts(x, 2, 0, 0, 1, 0, 2, 1);
        // No finding: a TEXT with a FAULT, an answer below 0, a z that looks like one.
        x.text();
        x.now(6);
        x.seed(FULL);
        x.count(6);
        x.seed(1);
        dueCounts(x, 2, 0, 0, 1, 0, 2, 1);
        sentence(43, "BEYOND (counted from then on): another one.");
        int[] others = {LEAST, -2, 7, MOST};
        int beyond = 2;
        for (int which : others) {
            due(x.status(which), BEYOND);
            beyond++;
            due(x.status(0), beyond);
            due(x.status(-1), beyond + 4);
        }
        dueCounts(x, 6, 0, 0, 1, 0, 2, 1);
    }
}
