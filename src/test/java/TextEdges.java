/** Sentences about THE TAPE and TEXTS, in the terms and in promises 29 to 31. */
final class TextEdges extends Edges {
    private TextEdges() {
    }

    static void all() {
        tape();
        tokens();
        items();
        itemEdges();
        goatItems();
        faults();
        faultOfNumber();
        faultOfByte();
        faultOfGoat();
        faultOfEnd();
        feed();
        wipe();
        text();
        textWithFault();
    }

    private static void told(GoatShelves x, String words, int answer) {
        due(text(x, words), answer);
        due(x.count(5), 0);
    }

    /** The FAULT is where the first of two signs | is in the words; these signs are no part of them. */
    private static void fault(String words) {
        GoatShelves x = new GoatShelves();
        told(x, words.replace("|", ""), -1 - words.indexOf('|'));
        dueUntouched(x);
    }

    private static void dueUntouched(GoatShelves x) {
        due(x.count(1), 0);
        due(x.count(3), 50);
        due(x.count(4), 240);
        due(x.set(0, 2), 2);
        due(x.status(-1), 0);
    }

    private static void tape() {
        term(29, "3. A TEXT is read from THE TAPE (bytes, at most 120).");
        GoatShelves x = new GoatShelves();
        told(x, "salt 7;" + " ".repeat(107) + "salt 9", 2);
        due(x.count(3), 9);
        // A TEXT of 120 bytes, whose last one counts.
        told(x, "salt " + " ".repeat(111) + "1234", 1);
        due(x.count(3), 1234);
        for (int i = 0; i < 120; i++) {
            due(x.feed('x', 1), i + 1);
        }
        due(x.feed('x', 1), FULL);
        due(x.count(5), 120);
        due(x.text(), -1);
        due(x.feed('x', 1), 1);
    }

    private static void tokens() {
        term(31, "TOKENS, each as long as can be: WORDS (letters a to z), NUMBERS (digits, 99999 at most), SIGN ; ; blanks "
            + "may stand between.");
        GoatShelves x = new GoatShelves();
        told(x, "salt12;salt345", 2);
        due(x.count(3), 345);
        told(x, "grass2 34;grass   3   45  ;   grass 4 56", 3);
        due(x.ledge(2, 0), 34);
        due(x.ledge(3, 0), 45);
        due(x.ledge(4, 0), 56);
        told(x, "old on3knows4fed5", 1);
        due(x.of(0, 0), OLD);
        due(x.of(0, 1), 3);
        due(x.of(0, 2), 4);
        due(x.of(0, 4), 5);
        told(x, "  salt 8  ", 1);
        due(x.count(3), 8);
        told(x, "salt 00000000000000000000009", 1);
        due(x.count(3), 9);
        // As long as can be: no WORD is within another, no two NUMBERS within one, and a blank parts both.
        fault("|goatson 1");
        fault("|saltsalt 1");
        fault("goat |onon 1");
        fault("goat |knowsfed 1");
        fault("grass |1234");
        fault("grass 1 |100");
        fault("|sa lt 1");
        fault("salt 1 |2");
        fault("grass 1 2 |3");
        // The letters and digits end where they do.
        fault("|`salt 1");
        fault("|{salt 1");
        fault("|Salt 1");
        fault("|sAlt 1");
        fault("|zsalt 1");
        fault("|asalt 1");
        fault("|saltz 1");
        fault("|salta 1");
        fault("salt |a1");
        fault("salt |z1");
        fault("salt |/1");
        fault("salt |:1");
        fault("salt 1|/");
        fault("salt 1|:salt 2");
        fault("salt 1|<salt 2");
        fault("salt |-1");
        fault("salt |+1");
        fault("salt|\t1");
        fault("salt|\n1");
        fault("salt|\0001");
        fault("|\37salt 1");
        fault("|!salt 1");
    }

    private static void items() {
        term(31, "TEXT: ITEM { ; ITEM }.");
        GoatShelves x = new GoatShelves();
        told(x, "salt 1", 1);
        told(x, "salt 1;salt 2", 2);
        told(x, "salt 1;grows 3;grass 0 4;kid;old on 5", 5);
        due(x.count(3), 1);
        due(x.set(0, 0), 3);
        due(x.ledge(0, 0), 4);
        due(x.ledge(0, 1), 1);
        due(x.ledge(5, 1), 2);
        told(x, "salt 0;".repeat(16) + "salt 12", 17);
        due(x.count(3), 12);
        fault("|");
        fault("|;");
        fault("|;salt 1");
        fault("salt 1;|");
        fault("salt 1;|;salt 2");
        fault("salt 1;|;");
        fault("salt 1 |salt 2");
    }

    private static void itemEdges() {
        term(31, "grass, two NUMBERS (a LEDGE, 0 to 99); grows, a NUMBER (0 to 20); salt, a NUMBER (0 to 9999).");
        GoatShelves x = new GoatShelves();
        told(x, "grass 0 0;grass 11 99;grass 5 0;grass 6 99", 4);
        due(x.ledge(0, 0), 0);
        due(x.ledge(11, 0), 99);
        due(x.ledge(5, 0), 0);
        due(x.ledge(6, 0), 99);
        told(x, "grows 20", 1);
        due(x.set(0, 1), 20);
        told(x, "grows 0", 1);
        due(x.set(0, 1), 0);
        told(x, "salt 9999", 1);
        due(x.count(3), 9999);
        told(x, "salt 0", 1);
        due(x.count(3), 0);
        fault("grass |12 0");
        fault("grass |99 0");
        fault("grass 11 |100");
        fault("grass 11|;");
        fault("grass |goat");
        fault("grass 1 |goat");
        fault("grows |21");
        fault("grows |;");
        fault("grows |salt");
        fault("salt |10000");
        fault("salt |salt");
    }

    private static void goatItems() {
        term(31, "ITEM: goat, nanny, billy, grey, old, white or kid, perhaps on and a NUMBER (a LEDGE; 0 without), perhaps "
            + "knows and a NUMBER (a set, 0 to 65535), perhaps fed and a NUMBER (0 to 99): a new one;");
        String[] words = {"goat", "nanny", "billy", "grey", "old", "white", "kid"};
        for (int kind = 0; kind < 7; kind++) {
            GoatShelves x = new GoatShelves();
            told(x, words[kind], 1);
            told(x, words[kind] + " on 11 knows 65535 fed 99", 1);
            told(x, words[kind] + " on 0 knows 0 fed 0", 1);
            told(x, words[kind] + " knows 9 fed 8", 1);
            told(x, words[kind] + " on 7 fed 6", 1);
            told(x, words[kind] + " on 5 knows 4", 1);
            dueGoat(x, 0, kind, 0, 0, 0, 30, 0);
            dueGoat(x, 1, kind, 11, 65535, 0, 99, 0);
            dueGoat(x, 2, kind, 0, 0, 0, 0, 0);
            dueGoat(x, 3, kind, 0, 9, 0, 8, 0);
            dueGoat(x, 4, kind, 7, 0, 0, 6, 0);
            dueGoat(x, 5, kind, 5, 4, 0, 30, 0);
            due(x.count(1), 6);
            fault(words[kind] + " on |12");
            fault(words[kind] + " knows |65536");
            fault(words[kind] + " fed |100");
        }
        fault("kid fed 1 |on 1");
        fault("kid fed 1 |knows 1");
        fault("kid knows 1 |on 1");
        fault("kid on 1 |on 1");
        fault("kid knows 1 |knows 1");
        fault("kid fed 1 |fed 1");
    }

    private static void dueGoat(GoatShelves x, int goat, int... traits) {
        for (int what = 0; what < traits.length; what++) {
            due(x.of(goat, what), traits[what]);
        }
    }

    private static void faults() {
        term(31, "FAULT: the place (from 0) of the first byte of the first TOKEN that can't stand there");
        fault("|x");
        fault("  |x");
        fault("|7");
        fault("|on 1");
        fault("|knows 1");
        fault("|fed 1");
        fault("goat |7");
        fault("goat on 1 |7");
        fault("goat on |on 1");
        fault("goat knows |;");
        fault("goat |salt 1");
        fault("goat on 1   |salt 1");
        fault("salt 1; |x");
        // The first of several, though the rest is wrong as well.
        fault("salt |10000;x;grass 99");
        fault("salt 1|#x salt");
        told(new GoatShelves(), "x".repeat(120), -1);
        told(new GoatShelves(), " ".repeat(119) + "x", -120);
    }

    private static void faultOfNumber() {
        term(31, "(a NUMBER that isn't as told, another WORD,");
        fault("salt |99999");
        fault("salt |100000");
        fault("salt |100001");
        fault("salt |4294967296");
        fault("salt |4294967297");
        fault("salt |18446744073709551617");
        fault("salt |" + "9".repeat(115));
        fault("salt |00010000");
        fault("grass |4294967296 0");
        fault("goat on |2147483648");
        fault("goat knows |131071");
        fault("goat fed |99999");
        fault("|sheep");
        fault("|goa");
        fault("|goats");
        // Each WORD with its first letter, its last one or one within it another.
        String[] others = {"boat", "goal", "goet", "manny", "nanni", "nonny", "silly", "billi", "bully", "prey", "gres", "gray",
            "uld", "olt", "ode", "xhite", "whits", "while", "bid", "kit", "ked", "crass", "grasp", "gloss", "crows", "growl",
            "glows", "malt", "sale", "silt"};
        for (String word : others) {
            fault("|" + word + " 1");
            fault("salt 1;|" + word + " 1");
        }
        String[] otherParts = {"in", "of", "xnows", "known", "knews", "led", "fee", "fad"};
        for (String word : otherParts) {
            fault("goat |" + word + " 1");
        }
        fault("salt 1;|salty 1");
        fault("goat |at 1");
        fault("goat |o 1");
        fault("goat on 1 |know 1");
    }

    private static void faultOfByte() {
        term(31, "a byte that begins no TOKEN,");
        for (int b = 0; b < 256; b++) {
            boolean begins = b >= 'a' && b <= 'z' || b >= '0' && b <= '9' || b == ';' || b == ' ';
            if (!begins) {
                GoatShelves x = new GoatShelves();
                x.feed(b, 1);
                due(x.text(), -1);
                told(x, "salt " + (char) b + "1", -6);
                told(x, "salt 1" + (char) b, -7);
                told(x, "goat" + (char) b, -5);
                dueUntouched(x);
            }
        }
    }

    private static void faultOfGoat() {
        term(31, "the WORD of a 9th GOAT: its own),");
        GoatShelves x = new GoatShelves();
        told(x, "kid;kid;kid;kid;kid;kid;kid;kid;kid", -1 - 32);
        due(x.count(1), 0);
        told(x, "kid;kid;kid;kid;kid;kid;kid;kid", 8);
        due(x.count(1), 8);
        told(x, "salt 7; old on 99", -1 - 8);
        told(x, "white", -1);
        told(x, "salt 7;sheep", -1 - 7);
        due(x.count(3), 50);
        told(x, "salt 7", 1);
        due(x.count(3), 7);
        due(x.count(1), 8);
        due(x.status(-1), 0);
    }

    private static void faultOfEnd() {
        term(31, "or how many bytes there are if it ends too early.");
        fault("|");
        fault("   |");
        fault("salt|");
        fault("salt  |");
        fault("salt 1;|");
        fault("salt 1; |");
        fault("grows|");
        fault("grass|");
        fault("grass 1|");
        fault("grass 1 |");
        fault("goat on|");
        fault("goat on 1 knows|");
        fault("goat on 1 knows 1 fed|");
        fault("goat;|");
        told(new GoatShelves(), " ".repeat(120), -121);
        told(new GoatShelves(), "salt" + " ".repeat(116), -121);
    }

    private static void feed() {
        sentence(29, "THE TAPE gets the n lowest bytes of a number behind it, the highest of these first (n 1 to 4): how "
            + "many it has.");
        GoatShelves x = new GoatShelves();
        due(x.feed('s' << 24 | 'a' << 16 | 'l' << 8 | 't', 4), 4);
        due(x.feed(0x80 << 24 | '1' << 16 | '2' << 8 | '3', 3), 7);
        due(x.feed(0xFFFF0000 | '4' << 8 | ';', 2), 9);
        due(x.feed(0x7FFFFF00 | 'k', 1), 10);
        due(x.feed('i' << 8 | 'd', 2), 12);
        due(x.text(), 2);
        due(x.count(3), 1234);
        due(x.of(0, 0), KID);
        // Bytes of a number below 0 are bytes as well.
        due(x.feed(-1, 4), 4);
        due(x.feed(LEAST, 4), 8);
        due(x.text(), -1);
        sentence(29, "BEYOND: n.");
        int[] others = {LEAST, -1, 0, 5, 8, MOST};
        for (int n : others) {
            due(x.feed(0, n), BEYOND);
        }
        due(x.count(5), 0);
        due(x.status(0), others.length);
        for (int n = 1; n <= 4; n++) {
            due(x.feed(0, n), n * (n + 1) / 2);
        }
        sentence(29, "FULL.");
        for (int n = 1; n <= 4; n++) {
            GoatShelves y = new GoatShelves();
            for (int i = 0; i < 29; i++) {
                y.feed(0, 4);
            }
            due(y.feed(0, 4 - n + 1), 116 + 4 - n + 1);
            due(y.feed(0, n), FULL);
            due(y.count(5), 116 + 4 - n + 1);
            due(n > 1 ? y.feed(0, n - 1) : y.count(5), 120);
            due(y.feed(0, 1), FULL);
            due(y.feed(0, 0), BEYOND);
            due(y.feed(0, 5), BEYOND);
            due(y.count(5), 120);
            dueCounts(y, 2, 2, 0, 0, 0, 0, 0);
        }
    }

    private static void wipe() {
        sentence(30, "THE TAPE is empty: how many it had.");
        GoatShelves x = new GoatShelves();
        due(x.wipe(), 0);
        due(x.feed('7', 1), 1);
        due(x.wipe(), 1);
        due(x.wipe(), 0);
        for (int i = 0; i < 30; i++) {
            x.feed('x', 4);
        }
        due(x.wipe(), 120);
        due(x.count(5), 0);
        due(x.feed('k' << 16 | 'i' << 8 | 'd', 3), 3);
        due(x.text(), 1);
        due(x.wipe(), 0);
        due(x.status(-1), 0);
    }

    private static void text() {
        sentence(31, "THE TAPE is a TEXT, and empty then; all that it tells is so, item by item: how many ITEMS.");
        GoatShelves x = new GoatShelves();
        told(x, "salt 1;salt 2;salt 3;grass 4 5;grass 4 6", 5);
        due(x.count(3), 3);
        due(x.ledge(4, 0), 6);
        x.goat(GREY, 1);
        told(x, "white;billy", 2);
        dueGoat(x, 0, GREY, 1);
        dueGoat(x, 1, WHITE, 0);
        dueGoat(x, 2, BILLY, 0);
        due(x.wipe(), 0);
        // It is empty then: the same can be told again, and another piece stands alone.
        told(x, "grows 7", 1);
        due(x.set(0, 1), 7);
        due(x.text(), -1);
        due(x.status(-1), 0);
    }

    private static void textWithFault() {
        sentence(31, "With a FAULT: -1 less the FAULT (nothing changes but that THE TAPE is empty; no finding).");
        GoatShelves x = new GoatShelves();
        goat(x, OLD, 3, 5);
        x.hold(4, 0);
        x.seed(9);
        told(x, "salt 1;grows 1;grass 0 1;kid on 1 knows 1 fed 1;#", -1 - 48);
        due(x.count(1), 1);
        due(x.count(3), 50);
        due(x.count(4), 240);
        due(x.count(5), 0);
        due(x.count(6), 9);
        due(x.count(7), 1);
        due(x.set(0, 2), 2);
        dueGoat(x, 0, OLD, 3, 5, 0, 30, 0);
        due(x.goat(KID, 11), 1);
        dueGoat(x, 1, KID, 11, 0, 0, 30, 0);
        due(x.text(), -1);
        due(x.status(-1), 0);
    }
}
