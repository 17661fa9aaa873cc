import java.math.BigInteger;
import java.util.ArrayList;
import java.util.Arrays;
import java.util.List;
import java.util.TreeSet;
import java.util.regex.Matcher;
import java.util.regex.Pattern;

/** The document said a second time and otherwise: slow, with the Java library, for ModelTest to compare with. */
final class IslandModel {
    static final class Finding extends RuntimeException {
        private static final long serialVersionUID = 1;
        final int which;

        Finding(int which) {
            super(null, null, false, false);
            this.which = which;
        }
    }

    private static final String[] KINDS = {"goat", "nanny", "billy", "grey", "old", "white", "kid"};
    private static final int[] PARENT = {-1, 0, 0, 2, 3, 0, 1};

    static final class Goat {
        int number;
        int kind;
        int ledge;
        TreeSet<Integer> pages = new TreeSet<>();
        int age;
        int fed = 30;
        int asked;
        boolean away;

        Goat twin() {
            Goat g = new Goat();
            g.number = number;
            g.kind = kind;
            g.ledge = ledge;
            g.pages = new TreeSet<>(pages);
            g.age = age;
            g.fed = fed;
            g.asked = asked;
            g.away = away;
            return g;
        }

        int bits() {
            int b = 0;
            for (int p : pages) {
                b += 1 << p;
            }
            return b;
        }

        void know(int bits) {
            pages.clear();
            for (int p = 0; p < 16; p++) {
                if ((bits & (1 << p)) != 0) {
                    pages.add(p);
                }
            }
        }

        boolean quotes(int page, int asKind) {
            if (!pages.contains(page)) {
                return false;
            }
            switch (asKind) {
                case 0: return true;
                case 1: return fed >= 10;
                case 2: return (ledge & 1) == 0;
                case 3: return true;
                case 4: return quotes(page, 3) && (page + age) % 3 != 0;
                case 5: return ledge == 11;
                default: return quotes(page, 1) && page <= 7;
            }
        }

        int costs(int asKind) {
            switch (asKind) {
                case 0: return 2;
                case 1: return costs(0) + ledge;
                case 2: return costs(0) + pages.size() / 2;
                case 3: return costs(2) - 1;
                case 4: return costs(3) + age / 10;
                case 5: return 99;
                default: return costs(1) / 2;
            }
        }

        int grazes(int asKind) {
            switch (asKind) {
                case 0: return 5;
                case 1: return grazes(0) + 2;
                case 2: return grazes(0) + 1;
                case 3: return grazes(2);
                case 4: return grazes(2);
                case 5: return 2;
                default: return grazes(1) / 2;
            }
        }
    }

    static final class Isle {
        int[] grass = new int[12];
        int grows = 2;
        int salt = 50;
        int day;
        int z = 1;
        List<Goat> goats = new ArrayList<>();
        Integer[] spots = new Integer[10];

        Isle() {
            Arrays.fill(grass, 20);
        }

        Isle twin() {
            Isle i = new Isle();
            i.grass = grass.clone();
            i.grows = grows;
            i.salt = salt;
            i.day = day;
            i.z = z;
            for (Goat g : goats) {
                i.goats.add(g.twin());
            }
            i.spots = spots.clone();
            return i;
        }

        int climb(Goat g, int asKind) {
            switch (asKind) {
                case 2: return (day + g.number) % 2 == 0 ? climb(g, 0) : g.ledge;
                case 3: return g.ledge;
                case 4: return g.ledge > 0 && g.age % 5 == 0 ? g.ledge - 1 : g.ledge;
                case 5: return g.ledge < 11 ? g.ledge + 1 : 11;
                default: {
                    int most = -1;
                    int goal = -1;
                    for (int d : new int[] {0, 1, -1}) {
                        int l = g.ledge + d;
                        if (l >= 0 && l <= 11 && grass[l] > most) {
                            most = grass[l];
                            goal = l;
                        }
                    }
                    return goal;
                }
            }
        }

        void dawn() {
            for (Goat g : goats) {
                if (g.away) {
                    continue;
                }
                g.ledge = climb(g, g.kind);
                int eats = Math.min(g.grazes(g.kind), grass[g.ledge]);
                grass[g.ledge] -= eats;
                g.fed += eats;
                if (g.fed > 99) {
                    g.fed = 99;
                }
                g.fed -= 3;
                if (g.fed < 0) {
                    g.fed = 0;
                }
            }
            for (Goat g : goats) {
                if (g.away) {
                    continue;
                }
                if (g.fed >= 20) {
                    TreeSet<Integer> news = new TreeSet<>();
                    for (Goat o : goats) {
                        if (o != g && !o.away && o.ledge == g.ledge) {
                            news.addAll(o.pages);
                        }
                    }
                    news.removeAll(g.pages);
                    if (!news.isEmpty()) {
                        g.pages.add(news.first());
                    }
                }
                if (g.fed == 0 && !g.pages.isEmpty()) {
                    g.pages.pollLast();
                }
                if (g.age < 9999) {
                    g.age++;
                }
            }
            for (int l = 0; l < 12; l++) {
                grass[l] = Math.min(99, grass[l] + grows);
            }
            if (day < 99999) {
                day++;
            }
        }

        Isle after(int n) {
            Isle i = twin();
            for (int d = 0; d < n; d++) {
                i.dawn();
            }
            return i;
        }

        TreeSet<Integer> known() {
            TreeSet<Integer> all = new TreeSet<>();
            for (Goat g : goats) {
                if (!g.away) {
                    all.addAll(g.pages);
                }
            }
            return all;
        }

        int knownBits() {
            int b = 0;
            for (int p : known()) {
                b += 1 << p;
            }
            return b;
        }

        int draw() {
            z = z * 1103515245 + 12345;
            return z >>> 8;
        }

        Goat best(int page) {
            Goat best = null;
            for (Goat g : goats) {
                if (g.quotes(page, g.kind) && (best == null || g.costs(g.kind) < best.costs(best.kind))) {
                    best = g;
                }
            }
            return best;
        }
    }

    static final class Row {
        int bits;
        int[] at;
    }

    Isle isle = new Isle();
    Isle kept;
    List<Integer> tape = new ArrayList<>();
    Row[] rows = new Row[4];
    int[] findings = new int[7];

    /** The answer to a call, by its name. */
    long answer(String call, int[] a) {
        try {
            return dispatch(call, a);
        } catch (Finding f) {
            findings[f.which]++;
            return -1000001L - f.which;
        }
    }

    private static void need(boolean ok, int which) {
        if (!ok) {
            throw new Finding(which);
        }
    }

    private static void in(int v, int least, int most) {
        need(v >= least && v <= most, 0);
    }

    private Goat goat(int g) {
        in(g, 0, isle.goats.size() - 1);
        return isle.goats.get(g);
    }

    private Row row(int s) {
        in(s, 0, 3);
        need(rows[s] != null, 5);
        return rows[s];
    }

    private long dispatch(String call, int[] a) {
        switch (call) {
            case "grass": case "ledge": case "set": case "goat": case "of": case "change": case "birth": case "ask":
                return ledges(call, a);
            case "go": case "now": case "who":
                return days(call, a);
            case "ahead": case "learns": case "lost": case "meet": case "reach":
                return ahead(call, a);
            case "put": case "kindFor": case "growsFor": case "cover": case "price": case "censor":
                return where(call, a);
            case "kinds": case "fits":
                return told(call, a);
            case "slips": case "odds": case "seed":
                return slips(call, a);
            case "feed": case "wipe": case "text":
                return texts(call, a);
            case "hold": case "as": case "sheet": case "write": case "copy": case "load": case "judge":
                return sheets(call, a);
            default:
                return images(call, a);
        }
    }

    private int add(int kind, int ledge) {
        Goat g = new Goat();
        g.number = isle.goats.size();
        g.kind = kind;
        g.ledge = ledge;
        isle.goats.add(g);
        return g.number;
    }

    private static int get(Goat g, int what) {
        return new int[] {g.kind, g.ledge, g.bits(), g.age, g.fed, g.asked}[what];
    }

    private static void put(Goat g, int what, int v) {
        switch (what) {
            case 0: g.kind = v; break;
            case 1: g.ledge = v; break;
            case 2: g.know(v); break;
            case 3: g.age = v; break;
            case 4: g.fed = v; break;
            default: g.asked = v;
        }
    }

    private long ledges(String call, int[] a) {
        int was;
        switch (call) {
            case "grass":
                in(a[0], 0, 11);
                in(a[1], 0, 99);
                was = isle.grass[a[0]];
                isle.grass[a[0]] = a[1];
                return was;
            case "ledge": {
                in(a[0], 0, 11);
                in(a[1], 0, 2);
                int who = 0;
                int pages = 0;
                for (Goat g : isle.goats) {
                    if (g.ledge == a[0]) {
                        who += 1 << g.number;
                        pages |= g.bits();
                    }
                }
                return a[1] == 0 ? isle.grass[a[0]] : a[1] == 1 ? who : pages;
            }
            case "set":
                in(a[0], 0, 1);
                in(a[1], 0, a[0] == 0 ? 20 : 9999);
                was = a[0] == 0 ? isle.grows : isle.salt;
                if (a[0] == 0) {
                    isle.grows = a[1];
                } else {
                    isle.salt = a[1];
                }
                return was;
            case "goat":
                in(a[0], 0, 6);
                in(a[1], 0, 11);
                need(isle.goats.size() < 8, 1);
                return add(a[0], a[1]);
            case "of": {
                Goat g = goat(a[0]);
                in(a[1], 0, 9);
                if (a[1] < 6) {
                    return get(g, a[1]);
                }
                if (a[1] == 6) {
                    return g.costs(g.kind);
                }
                if (a[1] == 7) {
                    return g.grazes(g.kind);
                }
                if (a[1] == 8) {
                    return isle.climb(g, g.kind);
                }
                int set = 0;
                for (int p = 0; p < 16; p++) {
                    if (g.quotes(p, g.kind)) {
                        set += 1 << p;
                    }
                }
                return set;
            }
            case "change": {
                Goat g = goat(a[0]);
                in(a[1], 0, 5);
                in(a[2], 0, new int[] {6, 11, 65535, 9999, 99, 9999}[a[1]]);
                was = get(g, a[1]);
                put(g, a[1], a[2]);
                return was;
            }
            case "birth": {
                Goat dam = goat(a[0]);
                need(isle.goats.size() < 8, 1);
                int kid = add(6, dam.ledge);
                TreeSet<Integer> low = new TreeSet<>(dam.pages.headSet(8));
                low.pollFirst();
                isle.goats.get(kid).pages = low;
                return kid;
            }
            default: {
                in(a[0], 0, 15);
                Goat g = isle.best(a[0]);
                need(g != null, 3);
                need(isle.salt >= g.costs(g.kind), 4);
                isle.salt -= g.costs(g.kind);
                if (g.asked < 9999) {
                    g.asked++;
                }
                return g.number;
            }
        }
    }

    private long days(String call, int[] a) {
        if (call.equals("go")) {
            in(a[0], 1, 60);
            need(isle.day + a[0] <= 99999, 4);
            isle = isle.after(a[0]);
            return isle.knownBits();
        }
        if (call.equals("who")) {
            in(a[0], 0, 15);
            int set = 0;
            for (Goat g : isle.goats) {
                if (g.pages.contains(a[0])) {
                    set += 1 << g.number;
                }
            }
            return set;
        }
        in(a[0], 0, 6);
        int fed = 0;
        int on = 0;
        int wise = -1;
        for (Goat g : isle.goats) {
            fed += g.fed;
            on |= 1 << g.ledge;
            if (wise < 0 || g.pages.size() > isle.goats.get(wise).pages.size()) {
                wise = g.number;
            }
        }
        int known = isle.knownBits();
        return new int[] {isle.day, known, 65535 - known, Arrays.stream(isle.grass).sum(), fed, on, wise}[a[0]];
    }

    private long ahead(String call, int[] a) {
        if (!call.equals("lost")) {
            goat(a[0]);
        }
        switch (call) {
            case "ahead":
                in(a[1], 1, 4);
                in(a[2], 0, 100);
                return get(isle.after(a[2]).goats.get(a[0]), a[1]);
            case "learns": in(a[1], 0, 15); break;
            case "lost": in(a[0], 0, 15); break;
            case "meet":
                goat(a[1]);
                need(a[0] != a[1], 0);
                break;
            default: in(a[1], 0, 11);
        }
        Isle i = isle;
        for (int n = 0; n <= 100; n++) {
            boolean now;
            switch (call) {
                case "learns": now = i.goats.get(a[0]).pages.contains(a[1]); break;
                case "lost": now = !i.known().contains(a[0]); break;
                case "meet": now = i.goats.get(a[0]).ledge == i.goats.get(a[1]).ledge; break;
                default: now = i.goats.get(a[0]).ledge == a[1];
            }
            if (now) {
                return n;
            }
            i = i.after(1);
        }
        throw new Finding(3);
    }

    private long where(String call, int[] a) {
        switch (call) {
            case "put": case "kindFor": {
                goat(a[0]);
                in(a[1], 0, 40);
                int best = 0;
                int most = -1;
                for (int v = 0; v < (call.equals("put") ? 12 : 7); v++) {
                    Isle i = isle.twin();
                    put(i.goats.get(a[0]), call.equals("put") ? 1 : 0, v);
                    int knows = i.after(a[1]).goats.get(a[0]).pages.size();
                    if (knows > most) {
                        most = knows;
                        best = v;
                    }
                }
                return best;
            }
            case "growsFor":
                in(a[0], 0, 15);
                in(a[1], 0, 40);
                for (int grows = 0; grows <= 20; grows++) {
                    Isle i = isle.twin();
                    i.grows = grows;
                    if (i.after(a[1]).known().contains(a[0])) {
                        return grows;
                    }
                }
                throw new Finding(3);
            case "cover":
                in(a[0], 0, 65535);
                for (int size = 0; size <= isle.goats.size(); size++) {
                    for (int set = 0; set < 1 << isle.goats.size(); set++) {
                        int pages = 0;
                        for (Goat g : isle.goats) {
                            pages |= (set >> g.number & 1) == 1 ? g.bits() : 0;
                        }
                        if (Integer.bitCount(set) == size && (pages & a[0]) == a[0]) {
                            return set;
                        }
                    }
                }
                throw new Finding(3);
            case "price": {
                in(a[0], 0, 65535);
                int sum = 0;
                for (int p = 0; p < 16; p++) {
                    if ((a[0] >> p & 1) == 1) {
                        Goat g = isle.best(p);
                        need(g != null, 3);
                        sum += g.costs(g.kind);
                    }
                }
                return sum;
            }
            default:
                in(a[0], 0, 15);
                in(a[1], 0, 12);
                for (int size = 0; size <= isle.goats.size(); size++) {
                    for (int set = 0; set < 1 << isle.goats.size(); set++) {
                        if (Integer.bitCount(set) != size) {
                            continue;
                        }
                        Isle i = isle.twin();
                        for (Goat g : i.goats) {
                            g.away = (set >> g.number & 1) == 1;
                        }
                        if (!i.after(a[1]).known().contains(a[0])) {
                            return set;
                        }
                    }
                }
                throw new IllegalStateException();
        }
    }

    private long told(String call, int[] a) {
        Row r = row(a[0]);
        goat(a[1]);
        boolean kinds = call.equals("kinds");
        int set = 0;
        for (int v = 0; v < (kinds ? 7 : 12); v++) {
            Isle i = isle.twin();
            put(i.goats.get(a[1]), kinds ? 0 : 1, v);
            boolean fits = true;
            for (int d = 0; d < r.at.length; d++) {
                int is = get(i.after(d).goats.get(a[1]), kinds ? 1 : 4);
                fits &= r.at[d] == -1 || r.at[d] == is;
            }
            set += fits ? 1 << v : 0;
        }
        return set;
    }

    private long slips(String call, int[] a) {
        if (call.equals("seed")) {
            int was = isle.z;
            isle.z = a[0];
            return was;
        }
        if (call.equals("slips")) {
            in(a[0], 1, 20);
            need(isle.day + a[0] <= 99999, 4);
            for (int i = 0; i < a[0]; i++) {
                isle.grass[isle.draw() % 12] = 0;
                int g = isle.draw() % 8;
                if (g < isle.goats.size()) {
                    isle.goats.get(g).ledge = 0;
                }
                isle.dawn();
            }
            return isle.knownBits();
        }
        in(a[0], 0, 15);
        in(a[1], 0, 1);
        BigInteger above = BigInteger.valueOf(isle.known().size()).pow(a[0]);
        BigInteger below = BigInteger.valueOf(16).pow(a[0]);
        BigInteger gcd = above.gcd(below);
        return (a[1] == 0 ? above : below).divide(gcd).longValueExact();
    }

    private long texts(String call, int[] a) {
        if (call.equals("feed")) {
            in(a[1], 1, 4);
            need(tape.size() + a[1] <= 120, 1);
            for (int i = a[1] - 1; i >= 0; i--) {
                tape.add(a[0] >> 8 * i & 255);
            }
            return tape.size();
        }
        if (call.equals("wipe")) {
            int had = tape.size();
            tape.clear();
            return had;
        }
        StringBuilder all = new StringBuilder();
        for (int b : tape) {
            all.append((char) b);
        }
        tape.clear();
        return read(all.toString());
    }

    private static final Pattern TOKEN = Pattern.compile(" *([a-z]+|[0-9]+|;|[^ ]|\\z)");

    /** Reads by a table of states: each TOKEN that stands is put in, and the first that can't is the FAULT. */
    private int read(String all) {
        Isle before = isle.twin();
        Matcher m = TOKEN.matcher(all);
        String state = "item";
        int items = 0;
        int l = 0;
        int from = 0;
        while (m.find(from)) {
            String t = m.group(1);
            from = m.end();
            Goat g = isle.goats.isEmpty() ? null : isle.goats.get(isle.goats.size() - 1);
            boolean isNumber = t.matches("[0-9]+");
            BigInteger v = isNumber ? new BigInteger(t) : BigInteger.ONE.negate();
            String next = null;
            if (state.equals("item")) {
                int kind = Arrays.asList(KINDS).indexOf(t);
                if (kind >= 0 && isle.goats.size() < 8) {
                    add(kind, 0);
                    next = "goat";
                } else if (t.equals("grass") || t.equals("grows") || t.equals("salt")) {
                    next = t;
                }
                items++;
            } else if (t.isEmpty() || t.equals(";")) {
                boolean canEnd = state.equals("done") || state.equals("goat") || state.equals("placed") || state.equals("wise");
                if (canEnd && t.isEmpty()) {
                    return items;
                }
                next = canEnd ? "item" : null;
            } else if (state.equals("goat") && t.equals("on")) {
                next = "on";
            } else if ((state.equals("goat") || state.equals("placed")) && t.equals("knows")) {
                next = "knows";
            } else if ((state.equals("goat") || state.equals("placed") || state.equals("wise")) && t.equals("fed")) {
                next = "fed";
            } else if (isNumber) {
                switch (state) {
                    case "on":
                        if (upTo(v, 11)) {
                            g.ledge = v.intValue();
                            next = "placed";
                        }
                        break;
                    case "knows":
                        if (upTo(v, 65535)) {
                            g.know(v.intValue());
                            next = "wise";
                        }
                        break;
                    case "fed":
                        if (upTo(v, 99)) {
                            g.fed = v.intValue();
                            next = "done";
                        }
                        break;
                    case "grass":
                        if (upTo(v, 11)) {
                            l = v.intValue();
                            next = "much";
                        }
                        break;
                    case "much":
                        if (upTo(v, 99)) {
                            isle.grass[l] = v.intValue();
                            next = "done";
                        }
                        break;
                    case "grows":
                        if (upTo(v, 20)) {
                            isle.grows = v.intValue();
                            next = "done";
                        }
                        break;
                    case "salt":
                        if (upTo(v, 9999)) {
                            isle.salt = v.intValue();
                            next = "done";
                        }
                        break;
                    default:
                }
            }
            if (next == null) {
                isle = before;
                return -1 - m.start(1);
            }
            state = next;
        }
        throw new IllegalStateException();
    }

    private static boolean upTo(BigInteger v, int most) {
        return v.compareTo(BigInteger.valueOf(most)) <= 0;
    }

    private static int cut(int bits, int v) {
        return v << 32 - bits >> 32 - bits;
    }

    private long sheets(String call, int[] a) {
        switch (call) {
            case "hold":
                in(a[0], 0, 9);
                in(a[1], -1, isle.goats.size() - 1);
                isle.spots[a[0]] = a[1] < 0 ? null : a[1];
                return 1;
            case "as": {
                in(a[0], 0, 9);
                in(a[1], 0, 6);
                need(isle.spots[a[0]] != null, 5);
                Goat g = isle.goats.get(isle.spots[a[0]]);
                boolean under = false;
                for (int k = g.kind; k >= 0; k = PARENT[k]) {
                    under |= k == a[1];
                }
                need(under, 2);
                return g.number;
            }
            case "sheet":
                in(a[0], 0, 3);
                need(Arrays.asList(0, 8, 16, 32).contains(a[1]), 0);
                need(a[2] >= 0, 6);
                need(a[2] <= 40, 0);
                rows[a[0]] = null;
                if (a[1] == 0) {
                    return 0;
                }
                rows[a[0]] = new Row();
                rows[a[0]].bits = a[1];
                rows[a[0]].at = new int[a[2]];
                return a[2];
            case "write": {
                Row r = row(a[0]);
                in(a[1], 0, r.at.length - 1);
                r.at[a[1]] = cut(r.bits, a[2]);
                return 1;
            }
            case "copy": {
                in(a[0], 0, 3);
                in(a[2], 0, 3);
                Row r = row(a[0]);
                Row to = row(a[2]);
                need(r.bits == to.bits, 2);
                need(a[1] >= 0 && a[3] >= 0 && a[4] >= 0, 0);
                need((long) a[1] + a[4] <= r.at.length && (long) a[3] + a[4] <= to.at.length, 0);
                int[] were = Arrays.copyOfRange(r.at, a[1], a[1] + a[4]);
                for (int i = 0; i < a[4]; i++) {
                    to.at[a[3] + i] = were[i];
                }
                return a[4];
            }
            case "load": {
                Row r = row(a[0]);
                for (int i = 0; i < r.at.length; i++) {
                    if (i == 12 || r.at[i] < 0 || r.at[i] > 99) {
                        return i;
                    }
                    isle.grass[i] = r.at[i];
                }
                return r.at.length;
            }
            default: {
                Row r = row(a[0]);
                for (int i = 0; i < r.at.length; i++) {
                    if (i >= isle.goats.size() || isle.goats.get(i).bits() != r.at[i]) {
                        return 1 + i;
                    }
                }
                return 0;
            }
        }
    }

    private long images(String call, int[] a) {
        switch (call) {
            case "image":
                kept = isle.twin();
                return 1;
            case "undo":
                need(kept != null, 3);
                isle = kept.twin();
                return isle.day;
            case "tear": {
                int was = kept == null ? 0 : 1;
                kept = null;
                return was;
            }
            case "count": {
                in(a[0], 0, 7);
                int held = 0;
                for (Integer s : isle.spots) {
                    held += s == null ? 0 : 1;
                }
                return new int[] {isle.day, isle.goats.size(), isle.known().size(), isle.salt,
                    Arrays.stream(isle.grass).sum(), tape.size(), isle.z, held}[a[0]];
            }
            case "status":
                in(a[0], -1, 6);
                return a[0] < 0 ? Arrays.stream(findings).sum() : findings[a[0]];
            default:
                throw new IllegalStateException(call);
        }
    }
}
