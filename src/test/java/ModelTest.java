import java.util.ArrayList;
import java.util.List;
import java.util.Random;

/** Runs by draws of a fixed seed, each answer compared with that of IslandModel. */
public final class ModelTest {
    private static final String[] WORDS = {"goat", "nanny", "billy", "grey", "old", "white", "kid"};
    private static final String[] ODD = {
        "", " ", ";", "on", "knows", "fed", "goat", "goats", "grass", "grows", "salt", "x", "#", "G", "0", "7", "12",
        "007", "100", "21", "65536", "99999", "100000", "4294967296", "123456789012345678901", "\u00e9", "-", "\n"};

    public static void main(String[] args) {
        for (int run = 0; run < 150; run++) {
            runOnce(run);
        }
        Checks.end();
    }

    private static void runOnce(int run) {
        Random draws = new Random(run);
        GoatShelves x = new GoatShelves();
        IslandModel model = new IslandModel();
        List<Call> ahead = new ArrayList<>();
        if (run % 4 != 3) {
            settle(draws, ahead);
        }
        for (int n = 0; n < 512; n++) {
            if (ahead.isEmpty()) {
                plan(draws, ahead);
            }
            Call c = ahead.remove(0);
            Checks.due("run " + run + ", call " + n + ": " + c, c.on(x), model.answer(c.name, c.args));
        }
    }

    private static void settle(Random draws, List<Call> ahead) {
        int goats = draws.nextInt(9);
        for (int g = 0; g < goats; g++) {
            ahead.add(new Call("goat", draws.nextInt(7), draws.nextInt(draws.nextBoolean() ? 12 : 3)));
            ahead.add(new Call("change", g, 2, draws.nextInt(65536) & draws.nextInt(65536)));
        }
        for (int l = 0; l < 12; l++) {
            ahead.add(new Call("grass", l, draws.nextInt(draws.nextBoolean() ? 100 : 6)));
        }
        ahead.add(new Call("set", 0, draws.nextInt(draws.nextBoolean() ? 21 : 3)));
    }

    private static void plan(Random draws, List<Call> ahead) {
        int choice = draws.nextInt(60);
        if (choice == 0) {
            feed(drawnText(draws), ahead);
        } else if (choice == 1) {
            tellTruth(draws, ahead);
        } else if (choice == 2 && draws.nextBoolean()) {
            fill(draws, ahead);
        } else {
            ahead.add(Call.drawn(draws));
        }
    }

    private static void feed(String text, List<Call> ahead) {
        ahead.add(new Call("wipe"));
        for (int i = 0; i < text.length() && i < 120; i++) {
            ahead.add(new Call("feed", text.charAt(i), 1));
        }
        ahead.add(new Call("text"));
    }

    private static String drawnText(Random draws) {
        StringBuilder s = new StringBuilder();
        int items = 1 + draws.nextInt(4);
        for (int i = 0; i < items; i++) {
            s.append(i == 0 ? "" : ";").append(blanks(draws, 0)).append(drawnItem(draws)).append(blanks(draws, 0));
        }
        if (draws.nextInt(3) == 0) {
            int at = draws.nextInt(s.length() + 1);
            s.insert(at, ODD[draws.nextInt(ODD.length)]);
        }
        if (draws.nextInt(4) == 0) {
            s.setLength(draws.nextInt(s.length() + 1));
        }
        return s.toString();
    }

    private static String blanks(Random draws, int least) {
        return "   ".substring(0, Math.max(least, draws.nextInt(4) == 0 ? draws.nextInt(4) : least));
    }

    private static String drawnItem(Random draws) {
        switch (draws.nextInt(5)) {
            case 0: return "grass " + draws.nextInt(13) + " " + draws.nextInt(102);
            case 1: return "grows" + blanks(draws, 0) + draws.nextInt(22);
            case 2: return "salt " + draws.nextInt(10050);
            default:
        }
        String s = WORDS[draws.nextInt(7)];
        if (draws.nextBoolean()) {
            s += " on" + blanks(draws, 0) + draws.nextInt(13) + blanks(draws, 0);
        }
        if (draws.nextBoolean()) {
            s += " knows " + draws.nextInt(66000) + blanks(draws, 0);
        }
        if (draws.nextBoolean()) {
            s += " fed " + draws.nextInt(102);
        }
        return s;
    }

    /** A sheet of what may well come, for kinds(), fits() and judge(). */
    private static void tellTruth(Random draws, List<Call> ahead) {
        int s = draws.nextInt(4);
        int n = 1 + draws.nextInt(5);
        ahead.add(new Call("sheet", s, 8 << draws.nextInt(3), n));
        int near = draws.nextInt(12);
        boolean fed = draws.nextBoolean();
        for (int i = 0; i < n; i++) {
            int v = fed ? 30 + draws.nextInt(3) * i : near + (draws.nextInt(3) == 0 ? i : 0);
            ahead.add(new Call("write", s, i, draws.nextInt(3) != 0 ? -1 : v));
        }
        for (int g = 0; g < 8; g++) {
            ahead.add(new Call(fed ? "fits" : "kinds", s, g));
        }
        ahead.add(new Call("change", 0, 2, near));
        ahead.add(new Call("write", s, 0, near));
        ahead.add(new Call("judge", s));
    }

    private static void fill(Random draws, List<Call> ahead) {
        for (int i = 0; i < 31; i++) {
            ahead.add(new Call("feed", draws.nextInt(), 4));
        }
        ahead.add(new Call("feed", 1, 1 + draws.nextInt(4)));
        ahead.add(new Call(draws.nextBoolean() ? "text" : "wipe"));
    }
}
