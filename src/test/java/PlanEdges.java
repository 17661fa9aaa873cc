/** Sentences of promises 18 to 28: where, as what; as told; landslips. */
final class PlanEdges extends Edges {
    private static final int[] NO_PAGES = {LEAST, -1, 16, MOST};
    private static final int[] NO_SHEETS = {LEAST, -1, 4, MOST};

    private PlanEdges() {
    }

    static void all() {
        put();
        kindFor();
        growsFor();
        growsForRefused();
        cover();
        price();
        censor();
        censorDays();
        kinds();
        fits();
        slips();
        slipsTooFar();
        odds();
        seed();
    }

    private static void put() {
        sentence(18, "The LEDGE ON which a GOAT must be now, so that it KNOWS most PAGES behind n (0 to 40) DAYS.");
        GoatShelves x = new GoatShelves();
        x.set(0, 20);
        goat(x, GREY, 5, 0);
        due(x.put(0, 0), 0);
        due(x.put(0, 40), 0);
        goat(x, GREY, 11, 1);
        due(x.put(0, 0), 0);
        due(x.put(0, 1), 11);
        goat(x, GREY, 0, 0x8000);
        due(x.put(0, 1), 0);
        due(x.put(1, 1), 0);
        due(x.put(2, 1), 11);
        // Each DAY teaches one PAGE more: behind 15 DAYS as many are known on 0 as on 11, behind 16 one more.
        x.change(1, 2, 65535);
        x.change(2, 2, 0x7FFF);
        due(x.put(0, 15), 0);
        due(x.put(0, 16), 11);
        due(x.put(0, 40), 11);
        due(x.of(0, 1), 5);
        sentence(18, "BEYOND.");
        int[] noGoats = {LEAST, -1, 3, 8, MOST};
        for (int goat : noGoats) {
            due(x.put(goat, 1), BEYOND);
        }
        int[] days = {LEAST, -1, 41, MOST};
        for (int n : days) {
            due(x.put(0, n), BEYOND);
        }
        due(new GoatShelves().put(0, 0), BEYOND);
        dueCounts(x, 9, 0, 0, 0, 0, 0, 0);
    }

    private static void kindFor() {
        sentence(19, "The KIND of which it must be for that.");
        GoatShelves x = new GoatShelves();
        goat(x, KID, 5, 1);
        due(x.kindFor(0, 0), GOAT);
        due(x.kindFor(0, 40), GOAT);
        goat(x, GREY, 6, 2);
        due(x.kindFor(0, 1), WHITE);
        x.change(1, 1, 4);
        due(x.kindFor(0, 1), OLD);
        x.change(1, 1, 5);
        due(x.kindFor(0, 1), GOAT);
        x.grass(6, 21);
        due(x.kindFor(0, 1), GREY);
        due(x.kindFor(0, 40) <= KID ? 1 : 0, 1);
        // DAY and number: a BILLY of an odd number stays today, one of an even number doesn't.
        goat(x, KID, 5, 1);
        due(x.kindFor(2, 1), GREY);
        goat(x, KID, 5, 1);
        due(x.kindFor(3, 1), BILLY);
        due(x.of(3, 0), KID);
        sentence(19, "BEYOND.");
        int[] noGoats = {LEAST, -1, 4, 8, MOST};
        for (int goat : noGoats) {
            due(x.kindFor(goat, 1), BEYOND);
        }
        int[] days = {LEAST, -1, 41, MOST};
        for (int n : days) {
            due(x.kindFor(0, n), BEYOND);
        }
        due(new GoatShelves().kindFor(0, 0), BEYOND);
        dueCounts(x, 9, 0, 0, 0, 0, 0, 0);
    }

    private static void growsFor() {
        sentence(20, "The least GROWS with which a PAGE isn't OUT OF PRINT behind n (0 to 40) DAYS.");
        GoatShelves x = new GoatShelves();
        bareRock(x);
        goat(x, GREY, 11, 0x8000);
        x.set(0, 20);
        x.change(0, 4, 6);
        due(x.growsFor(15, 0), 0);
        due(x.growsFor(15, 1), 0);
        // FED is 3 behind the first DAY, then GROWS - 3 more each: 1 is enough for 2 DAYS, 2 for 3 (3 - 1 - 1), 3 for ever.
        due(x.growsFor(15, 2), 1);
        due(x.growsFor(15, 3), 2);
        due(x.growsFor(15, 4), 3);
        due(x.growsFor(15, 40), 3);
        due(x.set(0, 0), 20);
        // Three more take 18 of it first: with 20 there are 2 for it, with 21 there were enough.
        GoatShelves y = new GoatShelves();
        bareRock(y);
        for (int g = 0; g < 4; g++) {
            goat(y, GREY, 0, g == 3 ? 1 : 0);
            y.change(g, 4, 10);
        }
        y.change(3, 4, 5);
        due(y.growsFor(0, 2), 20);
        y.change(3, 4, 6);
        due(y.growsFor(0, 2), 19);
        sentence(20, "NONE.");
        y.change(3, 4, 4);
        due(y.growsFor(0, 2), NONE);
        due(y.growsFor(1, 0), NONE);
        due(y.growsFor(15, 40), NONE);
        due(new GoatShelves().growsFor(0, 0), NONE);
        dueCounts(y, 0, 0, 0, 3, 0, 0, 0);
    }

    private static void growsForRefused() {
        sentence(20, "BEYOND.");
        GoatShelves x = new GoatShelves();
        goat(x, GREY, 0, 65535);
        for (int page : NO_PAGES) {
            due(x.growsFor(page, 0), BEYOND);
        }
        int[] days = {LEAST, -1, 41, MOST};
        for (int n : days) {
            due(x.growsFor(0, n), BEYOND);
        }
        due(x.growsFor(15, 0), 0);
        // With GROWS 1 it is FED 0 behind 25 DAYS, so the last of the 16 PAGES goes behind 40.
        due(x.growsFor(0, 39), 1);
        due(x.growsFor(0, 40), 2);
        dueCounts(x, 8, 0, 0, 0, 0, 0, 0);
    }

    private static void cover() {
        sentence(21, "The set of fewest GOATS who KNOW all of a set of PAGES (0 to 65535) together; of several the least.");
        GoatShelves x = new GoatShelves();
        due(x.cover(0), 0);
        for (int g = 0; g < 8; g++) {
            goat(x, WHITE, 0, 3 << 2 * g);
        }
        due(x.cover(0), 0);
        due(x.cover(1), 1);
        due(x.cover(0x8000), 128);
        due(x.cover(65535), 255);
        due(x.cover(0x7FFF), 255);
        x.change(7, 2, 65535);
        due(x.cover(65535), 128);
        due(x.cover(1), 1);
        due(x.cover(5), 128);
        // Of several: fewest first, then the least.
        x.change(7, 2, 0xFFF0);
        due(x.cover(0x0F), 3);
        due(x.cover(0xC3), 9);
        due(x.cover(0xF0), 128);
        x.change(6, 2, 0x00FF);
        due(x.cover(0xC3), 64);
        sentence(21, "BEYOND.");
        int[] others = {LEAST, -1, 65536, MOST};
        for (int pages : others) {
            due(x.cover(pages), BEYOND);
        }
        sentence(21, "NONE.");
        x.change(7, 2, 0);
        due(x.cover(0x8000), NONE);
        due(x.cover(65535), NONE);
        dueCounts(x, 4, 0, 0, 2, 0, 0, 0);
        GoatShelves y = new GoatShelves();
        due(y.cover(1), NONE);
        due(y.cover(65535), NONE);
    }

    private static void price() {
        sentence(22, "The least SALT for which all of a set of PAGES are quoted now (each PAGE by who QUOTES it and COSTS "
            + "least).");
        GoatShelves x = new GoatShelves();
        due(x.price(0), 0);
        goat(x, WHITE, 11, 65535);
        due(x.price(65535), 16 * 99);
        due(x.price(0x8000), 99);
        goat(x, NANNY, 11, 0x8003);
        due(x.price(0x8003), 3 * 13);
        goat(x, GOAT, 11, 2);
        due(x.price(0x8003), 2 * 13 + 2);
        due(x.price(4), 99);
        // It isn't paid, nor is there as much SALT.
        due(x.count(3), 50);
        due(x.of(2, 5), 0);
        sentence(22, "BEYOND.");
        int[] others = {LEAST, -1, 65536, MOST};
        for (int pages : others) {
            due(x.price(pages), BEYOND);
        }
        sentence(22, "NONE: one isn't QUOTED.");
        x.change(0, 1, 10);
        due(x.price(4), NONE);
        due(x.price(65535), NONE);
        due(x.price(6), NONE);
        due(x.price(3), 15);
        x.change(1, 4, 9);
        due(x.price(3), NONE);
        due(x.price(2), 2);
        due(x.price(0), 0);
        due(new GoatShelves().price(1), NONE);
        dueCounts(x, 4, 0, 0, 4, 0, 0, 0);
    }

    private static void censor() {
        sentence(23, "The set of fewest GOATS such that, if these are gone now (they neither KNOW, nor CLIMB, nor graze, nor "
            + "teach), a PAGE is OUT OF PRINT behind n (0 to 12) DAYS; of several the least.");
        GoatShelves x = new GoatShelves();
        due(x.censor(0, 0), 0);
        due(x.censor(15, 12), 0);
        x.set(0, 20);
        for (int g = 0; g < 8; g++) {
            goat(x, WHITE, g, 0x8000);
        }
        due(x.censor(15, 0), 255);
        due(x.censor(15, 12), 255);
        due(x.censor(14, 0), 0);
        for (int g = 1; g < 8; g++) {
            x.change(g, 2, 0);
        }
        // It teaches the others; if it is gone it doesn't.
        due(x.censor(15, 12), 1);
        due(x.who(15), 1);
        x.change(5, 2, 0x8000);
        due(x.censor(15, 12), 33);
        due(x.count(0), 0);
        sentence(23, "BEYOND.");
        for (int page : NO_PAGES) {
            due(x.censor(page, 0), BEYOND);
        }
        int[] days = {LEAST, -1, 13, MOST};
        for (int n : days) {
            due(x.censor(0, n), BEYOND);
        }
        dueCounts(x, 8, 0, 0, 0, 0, 0, 0);
    }

    private static void censorDays() {
        sentence(23, "The set of fewest GOATS such that, if these are gone now (they neither KNOW, nor CLIMB, nor graze, nor "
            + "teach), a PAGE is OUT OF PRINT behind n (0 to 12) DAYS; of several the least.");
        // FED 36 and no GRASS: it is FED 0 behind 12 DAYS.
        GoatShelves x = new GoatShelves();
        bareRock(x);
        goat(x, GREY, 0, 1);
        x.change(0, 4, 36);
        due(x.censor(0, 11), 1);
        due(x.censor(0, 12), 0);
        x.change(0, 4, 37);
        due(x.censor(0, 12), 1);
        // 0 grazes what 1 needs: if 0 stays, the PAGE is lost; a third one KNOWS it, too.
        GoatShelves y = new GoatShelves();
        bareRock(y);
        y.grass(5, 6);
        goat(y, GREY, 5, 0);
        goat(y, GREY, 5, 1);
        y.change(0, 4, 9);
        y.change(1, 4, 3);
        due(y.censor(0, 0), 2);
        due(y.censor(0, 1), 0);
        goat(y, GREY, 5, 1);
        due(y.censor(0, 1), 4);
        due(y.censor(0, 0), 6);
        // Either of 0 and 1 is enough: without 0 nobody eats 1's GRASS away, so only the least set of one that does it counts.
        GoatShelves z = new GoatShelves();
        bareRock(z);
        goat(z, GREY, 5, 0);
        goat(z, GREY, 5, 2);
        z.change(1, 4, 3);
        // 0 learns it on the DAY on which 1 forgets it.
        due(z.ahead(0, 2, 1), 2);
        due(z.censor(1, 1), 1);
        due(z.censor(1, 0), 2);
    }

    private static void kinds() {
        sentence(24, "KINDS that a GOAT could be of, as a set, so that its LEDGE now and behind each DAY further on is as a "
            + "sheet tells (-1: any).");
        GoatShelves x = new GoatShelves();
        x.goat(GREY, 11);
        sheet(x, 0, 8);
        due(x.kinds(0, 0), 127);
        sheet(x, 0, 8, 11);
        due(x.kinds(0, 0), 127);
        sheet(x, 0, 8, 10);
        due(x.kinds(0, 0), 0);
        sheet(x, 0, 8, -1);
        due(x.kinds(0, 0), 127);
        sheet(x, 0, 16, 11, 10);
        due(x.kinds(0, 0), 1 << OLD);
        sheet(x, 0, 16, -1, 11, -1);
        due(x.kinds(0, 0), 127 - (1 << OLD));
        sheet(x, 0, 32, 12);
        due(x.kinds(0, 0), 0);
        sheet(x, 0, 32, -2);
        due(x.kinds(0, 0), 0);
        // A sheet of 40 tells 39 DAYS further on; only the last of them parts OLD from the others.
        x.set(0, 20);
        x.change(0, 3, 2);
        x.sheet(0, 8, 40);
        for (int i = 0; i < 40; i++) {
            x.write(0, i, -1);
        }
        x.write(0, 39, 3);
        due(x.kinds(0, 0), 1 << OLD);
        x.write(0, 39, 4);
        due(x.kinds(0, 0), 0);
        x.write(0, 38, 4);
        x.write(0, 39, 3);
        due(x.kinds(0, 0), 1 << OLD);
        due(x.of(0, 0), GREY);
        due(x.count(0), 0);
        sentence(24, "BEYOND: no such sheet.");
        for (int s : NO_SHEETS) {
            due(x.kinds(s, 0), BEYOND);
            due(x.kinds(s, 1), BEYOND);
        }
        sentence(24, "MISSING.");
        for (int s = 1; s < 4; s++) {
            due(x.kinds(s, 0), MISSING);
            due(x.kinds(s, 1), MISSING);
        }
        sentence(24, "BEYOND: no such GOAT.");
        int[] noGoats = {LEAST, -1, 1, 8, MOST};
        for (int goat : noGoats) {
            due(x.kinds(0, goat), BEYOND);
        }
        dueCounts(x, 13, 0, 0, 0, 0, 6, 0);
    }

    private static void fits() {
        sentence(25, "LEDGES ON which it could be now, as a set, so that FED of it now and behind each DAY further on is as a "
            + "sheet tells (-1: any).");
        GoatShelves x = new GoatShelves();
        x.goat(GREY, 5);
        sheet(x, 3, 8);
        due(x.fits(3, 0), 4095);
        sheet(x, 3, 8, 30);
        due(x.fits(3, 0), 4095);
        sheet(x, 3, 8, 29);
        due(x.fits(3, 0), 0);
        x.grass(0, 0);
        x.grass(11, 0);
        sheet(x, 3, 16, -1, 27);
        due(x.fits(3, 0), 0x801);
        sheet(x, 3, 16, 30, 33, -1);
        due(x.fits(3, 0), 4095 - 0x801);
        x.change(0, 4, 99);
        sheet(x, 3, 32, 99, 96);
        due(x.fits(3, 0), 4095);
        sheet(x, 3, 32, 100);
        due(x.fits(3, 0), 0);
        sheet(x, 3, 32, 65535);
        due(x.fits(3, 0), 0);
        // Behind 39 DAYS: where the first 12 DAYS' GRASS was, FED is more than where none was.
        bareRock(x);
        x.grass(7, 1);
        x.change(0, 4, 98);
        x.sheet(3, 8, 40);
        for (int i = 0; i < 40; i++) {
            x.write(3, i, -1);
        }
        x.write(3, 32, 98 + 1 - 32 * 3);
        due(x.fits(3, 0), 1 << 7);
        x.write(3, 32, 98 - 32 * 3);
        due(x.fits(3, 0), 4095 - (1 << 7));
        x.write(3, 39, 0);
        due(x.fits(3, 0), 4095 - (1 << 7));
        x.write(3, 39, 1);
        due(x.fits(3, 0), 0);
        due(x.of(0, 1), 5);
        sentence(25, "BEYOND: no such sheet.");
        for (int s : NO_SHEETS) {
            due(x.fits(s, 0), BEYOND);
            due(x.fits(s, 1), BEYOND);
        }
        sentence(25, "MISSING.");
        for (int s = 0; s < 3; s++) {
            due(x.fits(s, 0), MISSING);
            due(x.fits(s, 1), MISSING);
        }
        sentence(25, "BEYOND: no such GOAT.");
        int[] noGoats = {LEAST, -1, 1, 8, MOST};
        for (int goat : noGoats) {
            due(x.fits(3, goat), BEYOND);
        }
        dueCounts(x, 13, 0, 0, 0, 0, 6, 0);
    }

    private static void slips() {
        sentence(26, "n times (1 to 20) two draws: GRASS of the LEDGE of the first one's rest by 12 is 0; the GOAT of the "
            + "second one's rest by 8, if there is one, is ON LEDGE 0; then a DAY: PAGES that GOATS KNOW then, as a set.");
        // Seeds whose draws fall on each LEDGE and each GOAT, the topmost and the last as well.
        int ledges = 0;
        int goats = 0;
        int absent = 0;
        for (int z = 0; z < 200; z++) {
            int one = z * 1103515245 + 12345;
            int two = one * 1103515245 + 12345;
            int ledge = (one >>> 8) % 12;
            int goat = (two >>> 8) % 8;
            ledges |= 1 << ledge;
            GoatShelves x = new GoatShelves();
            x.set(0, 0);
            int there = z % 9;
            for (int g = 0; g < there; g++) {
                goat(x, GREY, 11, 1 << g);
                x.change(g, 4, 0);
            }
            x.seed(z);
            if (goat < there) {
                goats |= 1 << goat;
            } else {
                absent |= 1 << goat;
            }
            x.image();
            x.slips(1);
            due(x.count(6), two);
            due(x.count(0), 1);
            for (int l = 1; l < 11; l++) {
                due(x.ledge(l, 0), l == ledge ? 0 : 20);
            }
            for (int g = 0; g < there; g++) {
                due(x.of(g, 1), g == goat ? 0 : 11);
            }
            due(x.ledge(0, 0), ledge == 0 ? 0 : goat < there ? 14 : 20);
            due(x.status(-1), 0);
        }
        due(ledges, 4095);
        due(goats, 255);
        due(absent, 255);
        GoatShelves y = new GoatShelves();
        due(y.slips(20), 0);
        due(y.count(0), 20);
        int z = 1;
        for (int i = 0; i < 40; i++) {
            z = z * 1103515245 + 12345;
        }
        due(y.count(6), z);
        goat(y, GREY, 5, 0x8001);
        due(y.slips(1), 0x8001);
        sentence(26, "BEYOND.");
        int[] others = {LEAST, -1, 0, 21, MOST};
        int was = y.count(6);
        for (int n : others) {
            due(y.slips(n), BEYOND);
        }
        due(y.count(6), was);
        due(y.count(0), 21);
        dueCounts(y, 5, 0, 0, 0, 0, 0, 0);
    }

    private static void slipsTooFar() {
        sentence(26, "STATE: DAY would be above 99999.");
        GoatShelves x = new GoatShelves();
        passDaysUntil(x, 99980);
        due(x.slips(20), STATE);
        due(x.count(6), 1);
        due(x.slips(19), 0);
        due(x.count(0), 99999);
        due(x.slips(1), STATE);
        due(x.slips(21), BEYOND);
        due(x.slips(0), BEYOND);
        due(x.count(0), 99999);
        dueCounts(x, 2, 0, 0, 0, 2, 0, 0);
    }

    private static void odds() {
        sentence(27, "The odds that n (0 to 15) PAGES, each the rest by 16 of a draw, are all such as GOATS KNOW now: a fraction "
            + "in lowest terms: above (what 0), below the line (1).");
        GoatShelves x = new GoatShelves();
        x.goat(WHITE, 0);
        for (int known = 0; known <= 16; known++) {
            x.change(0, 2, (1 << known) - 1);
            int halves = known == 0 ? 4 : Math.min(4, Integer.numberOfTrailingZeros(known));
            long above = 1;
            long below = 1;
            for (int n = 0; n <= 15; n++) {
                if (n == 0 || n == 1 || n == 15) {
                    due(x.odds(n, 0), above);
                    due(x.odds(n, 1), below);
                }
                above *= known >> halves;
                below *= 16 >> halves;
            }
        }
        due(x.odds(15, 0), 1);
        x.change(0, 2, 0x7FFF);
        due(x.odds(15, 0), 437893890380859375L);
        due(x.odds(15, 1), 1152921504606846976L);
        sentence(27, "BEYOND.");
        int[] days = {LEAST, -1, 16, MOST};
        int[] whats = {LEAST, -1, 2, MOST};
        for (int i = 0; i < 4; i++) {
            due(x.odds(days[i], 0), -1000001L);
            due(x.odds(1, whats[i]), -1000001L);
        }
        dueCounts(x, 8, 0, 0, 0, 0, 0, 0);
    }

    private static void seed() {
        sentence(28, "z becomes v: what it was.");
        GoatShelves x = new GoatShelves();
        due(x.seed(LEAST), 1);
        due(x.seed(MOST), LEAST);
        due(x.seed(0), MOST);
        due(x.seed(-1), 0);
        due(x.count(6), -1);
        due(x.seed(BEYOND), -1);
        due(x.seed(SIZE), BEYOND);
        due(x.count(6), SIZE);
        due(x.status(-1), 0);
    }
}
