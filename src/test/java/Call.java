import java.lang.reflect.InvocationTargetException;
import java.lang.reflect.Method;
import java.util.Random;

/** A call of GoatShelves by name and arguments, told or by draws. */
final class Call {
    /** Name, and for each argument the greatest value that is still of use. */
    private static final Object[][] FACE = {
        {"grass", 11, 99}, {"ledge", 11, 2}, {"set", 1, 9999}, {"goat", 6, 11}, {"of", 7, 9}, {"change", 7, 5, 65535},
        {"birth", 7}, {"ask", 15}, {"go", 60}, {"now", 6}, {"who", 15}, {"ahead", 7, 4, 100}, {"learns", 7, 15},
        {"lost", 15}, {"meet", 7, 7}, {"reach", 7, 11}, {"put", 7, 40}, {"kindFor", 7, 40}, {"growsFor", 15, 40},
        {"cover", 65535}, {"price", 65535}, {"censor", 15, 12}, {"kinds", 3, 7}, {"fits", 3, 7}, {"slips", 20},
        {"odds", 15, 1}, {"seed", 99999}, {"feed", 65535, 4}, {"wipe"}, {"text"}, {"hold", 9, 7}, {"as", 9, 6},
        {"sheet", 3, 32, 40}, {"write", 3, 39, 99}, {"copy", 3, 20, 3, 20, 20}, {"load", 3}, {"judge", 3}, {"image"},
        {"undo"}, {"tear"}, {"count", 7}, {"status", 6}};
    private static final int[] EDGES = {
        Integer.MIN_VALUE, -1000001, -2, -1, 0, 1, 8, 9, 12, 16, 21, 41, 61, 99, 100, 101, 255, 9999, 10000, 32768,
        65535, 65536, 99999, Integer.MAX_VALUE - 1, Integer.MAX_VALUE};

    final String name;
    final int[] args;

    Call(String name, int... args) {
        this.name = name;
        this.args = args;
    }

    long on(GoatShelves x) {
        Class<?>[] types = new Class<?>[args.length];
        Object[] values = new Object[args.length];
        for (int i = 0; i < args.length; i++) {
            types[i] = int.class;
            values[i] = args[i];
        }
        try {
            Method m = GoatShelves.class.getMethod(name, types);
            return ((Number) m.invoke(x, values)).longValue();
        } catch (InvocationTargetException e) {
            throw new IllegalStateException(this + " threw", e.getCause());
        } catch (ReflectiveOperationException e) {
            throw new IllegalStateException(e);
        }
    }

    @Override
    public String toString() {
        StringBuilder s = new StringBuilder(name).append('(');
        for (int i = 0; i < args.length; i++) {
            s.append(i == 0 ? "" : ", ").append(args[i]);
        }
        return s.append(')').toString();
    }

    /** A call by draws: mostly one that can be met, now and then with an argument at or beyond an edge. */
    static Call drawn(Random draws) {
        Object[] row = FACE[draws.nextInt(FACE.length)];
        int[] args = new int[row.length - 1];
        for (int i = 0; i < args.length; i++) {
            args[i] = draws.nextInt((Integer) row[i + 1] + 1);
            if (draws.nextInt(25) == 0) {
                args[i] = draws.nextBoolean() ? EDGES[draws.nextInt(EDGES.length)] : (Integer) row[i + 1] + 1;
            }
        }
        Call c = new Call((String) row[0], args);
        c.bend(draws);
        return c;
    }

    /** Brings arguments that hang on one another together. */
    private void bend(Random draws) {
        switch (name) {
            case "set":
                if (args[0] == 0 && draws.nextInt(4) != 0) {
                    args[1] = draws.nextInt(21);
                }
                break;
            case "change":
                if (args[1] >= 0 && args[1] < 6 && draws.nextInt(8) != 0) {
                    args[2] = draws.nextInt(new int[] {7, 12, 65536, 10000, 100, 10000}[args[1]]);
                    if (args[1] == 2 && draws.nextBoolean()) {
                        args[2] &= draws.nextInt(65536) & draws.nextInt(65536);
                    }
                }
                break;
            case "cover": case "price":
                if (args[0] >= 0 && draws.nextBoolean()) {
                    args[0] &= draws.nextInt(65536) & draws.nextInt(65536);
                }
                break;
            case "go": case "slips":
                if (args[0] > 3 && args[0] < 21 && draws.nextInt(3) != 0) {
                    args[0] = 1 + args[0] % 3;
                }
                break;
            case "sheet":
                if (args[1] >= 0 && draws.nextInt(10) != 0) {
                    args[1] = 8 << draws.nextInt(3);
                }
                break;
            case "hold":
                if (draws.nextInt(5) == 0) {
                    args[1] = -1;
                }
                break;
            case "seed":
                if (draws.nextBoolean()) {
                    args[0] = draws.nextInt();
                }
                break;
            default:
        }
    }
}
