import java.util.Set;
import java.util.TreeSet;

/** What the tests of single sentences share: each names a promise and the document's words, which are noted as tested. */
abstract class Edges extends IslandChecks {
    /** Number of the promise (0: the sections before the promises), a blank, the words. */
    static final Set<String> TESTED = new TreeSet<>();

    static void sentence(int promise, String words) {
        at = "promise " + promise + ", \"" + words + "\"";
        TESTED.add(promise + " " + words);
    }

    /** Words of the sections before the promises, and a promise in which they show. */
    static void term(int promise, String words) {
        at = "promise " + promise + ", by \"" + words + "\"";
        TESTED.add("0 " + words);
    }

    /** GOATS of one KIND until there are 8. */
    static void crowd(GoatShelves x, int kind, int ledge) {
        for (int g = x.count(1); g < 8; g++) {
            x.goat(kind, ledge);
        }
    }

    /** It takes more than 512 calls, whose answers are free; that the limit of DAY holds can be seen in no other way. */
    static void passDaysUntil(GoatShelves x, int day) {
        while (x.count(0) < day) {
            x.go(Math.min(60, day - x.count(0)));
        }
    }

    /** Counts of all findings, BEYOND to SIZE. */
    static void dueCounts(GoatShelves x, int... counts) {
        int sum = 0;
        for (int which = 0; which < 7; which++) {
            due(x.status(which), counts[which]);
            sum += counts[which];
        }
        due(x.status(-1), sum);
    }
}
