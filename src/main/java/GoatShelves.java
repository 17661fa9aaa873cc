/** An island's cliff of LEDGES, the GOATS that keep its books by heart, and what can be asked of them. */
public final class GoatShelves {
    private static final int BEYOND = -1000001;
    private static final int FULL = BEYOND - 1;
    private static final int KIND = BEYOND - 2;
    private static final int NONE = BEYOND - 3;
    private static final int STATE = BEYOND - 4;
    private static final int MISSING = BEYOND - 5;
    private static final int SIZE = BEYOND - 6;
    private static final int FINDINGS = 7;

    private static final int SPOTS = 10;
    private static final int SHEETS = 4;
    private static final int MOST_SALT = 9999;
    private static final int MOST_GROWS = 20;
    private static final int MOST_DAYS_AHEAD = 100;
    private static final int MOST_DAYS_PLANNED = 40;

    /** What daysUntil() can wait for. */
    private static final int LEARNS = 0;
    private static final int LOST = 1;
    private static final int MEET = 2;
    private static final int REACH = 3;

    private final Cliff cliff;
    /** For what would be: it is overwritten by each act that looks ahead. */
    private final Cliff trial;
    private final Cliff kept;
    private boolean isKept;
    private final Tape tape;
    private final Reader reader;
    private final Sheet[] sheets;
    private final int[] findings;

    public GoatShelves() {
        cliff = new Cliff();
        trial = new Cliff();
        kept = new Cliff();
        isKept = false;
        tape = new Tape();
        reader = new Reader(tape, trial);
        sheets = new Sheet[SHEETS];
        for (int s = 0; s < SHEETS; s++) {
            sheets[s] = new Sheet();
        }
        findings = new int[FINDINGS];
    }

    // ---- ledges, goats

    public int grass(int ledge, int v) {
        if (!isLedge(ledge) || !isWithin(v, Cliff.MOST_GRASS)) {
            return found(BEYOND);
        }
        int was = cliff.grass[ledge];
        cliff.grass[ledge] = v;
        return was;
    }

    public int ledge(int ledge, int what) {
        if (!isLedge(ledge) || !isWithin(what, 2)) {
            return found(BEYOND);
        }
        switch (what) {
            case 0: return cliff.grass[ledge];
            case 1: return cliff.goatsOn(ledge);
            default: return cliff.pagesOn(ledge);
        }
    }

    public int set(int what, int v) {
        int was;
        if (what == 0 && isWithin(v, MOST_GROWS)) {
            was = cliff.grows;
            cliff.grows = v;
            return was;
        }
        if (what == 1 && isWithin(v, MOST_SALT)) {
            was = cliff.salt;
            cliff.salt = v;
            return was;
        }
        return found(BEYOND);
    }

    public int goat(int kind, int ledge) {
        if (!isKind(kind) || !isLedge(ledge)) {
            return found(BEYOND);
        }
        if (cliff.isFull()) {
            return found(FULL);
        }
        return cliff.addGoat(kind, ledge);
    }

    public int of(int goat, int what) {
        if (!isGoat(goat) || !isWithin(what, 9)) {
            return found(BEYOND);
        }
        switch (what) {
            case 6: return cliff.costs(goat);
            case 7: return cliff.grazes(goat);
            case 8: return cliff.climbsTo(goat);
            case 9: return cliff.quotes(goat);
            default: return cliff.trait(goat, what);
        }
    }

    public int change(int goat, int what, int v) {
        if (!isGoat(goat) || !isTraitValue(what, v)) {
            return found(BEYOND);
        }
        int was = cliff.trait(goat, what);
        cliff.setTrait(goat, what, v);
        return was;
    }

    public int birth(int goat) {
        if (!isGoat(goat)) {
            return found(BEYOND);
        }
        if (cliff.isFull()) {
            return found(FULL);
        }
        int titles = cliff.knows[goat] & Cliff.KID_PAGES;
        int kid = cliff.addGoat(Cliff.KID, cliff.ledge[goat]);
        cliff.knows[kid] = titles & ~leastBit(titles);
        return kid;
    }

    public int ask(int page) {
        if (!isPage(page)) {
            return found(BEYOND);
        }
        int teller = cliff.cheapestQuoting(page);
        if (teller < 0) {
            return found(NONE);
        }
        int costs = cliff.costs(teller);
        if (cliff.salt < costs) {
            return found(STATE);
        }
        cliff.salt -= costs;
        cliff.asked[teller] = Math.min(cliff.asked[teller] + 1, Cliff.MOST_ASKED);
        return teller;
    }

    // ---- days

    public int go(int n) {
        if (n < 1 || n > 60) {
            return found(BEYOND);
        }
        if (cliff.day + n > Cliff.MOST_DAY) {
            return found(STATE);
        }
        cliff.passDays(n);
        return cliff.pagesKnown();
    }

    public int now(int what) {
        switch (what) {
            case 0: return cliff.day;
            case 1: return cliff.pagesKnown();
            case 2: return Cliff.ALL_PAGES & ~cliff.pagesKnown();
            case 3: return cliff.grassInAll();
            case 4: return cliff.fedInAll();
            case 5: return cliff.ledgesWithGoats();
            case 6: return cliff.wisest();
            default: return found(BEYOND);
        }
    }

    public int who(int page) {
        if (!isPage(page)) {
            return found(BEYOND);
        }
        return cliff.goatsKnowing(page);
    }

    // ---- what will be (nothing changes)

    public int ahead(int goat, int what, int n) {
        if (!isGoat(goat) || what < 1 || what > 4 || !isWithin(n, MOST_DAYS_AHEAD)) {
            return found(BEYOND);
        }
        trial.become(cliff);
        trial.passDays(n);
        return trial.trait(goat, what);
    }

    public int learns(int goat, int page) {
        if (!isGoat(goat) || !isPage(page)) {
            return found(BEYOND);
        }
        return daysUntil(LEARNS, goat, page);
    }

    public int lost(int page) {
        if (!isPage(page)) {
            return found(BEYOND);
        }
        return daysUntil(LOST, page, 0);
    }

    public int meet(int a, int b) {
        if (!isGoat(a) || !isGoat(b) || a == b) {
            return found(BEYOND);
        }
        return daysUntil(MEET, a, b);
    }

    public int reach(int goat, int ledge) {
        if (!isGoat(goat) || !isLedge(ledge)) {
            return found(BEYOND);
        }
        return daysUntil(REACH, goat, ledge);
    }

    // ---- where, as what

    public int put(int goat, int n) {
        if (!isGoat(goat) || !isWithin(n, MOST_DAYS_PLANNED)) {
            return found(BEYOND);
        }
        return bestTrait(goat, Cliff.TRAIT_LEDGE, Cliff.LEDGES, n);
    }

    public int kindFor(int goat, int n) {
        if (!isGoat(goat) || !isWithin(n, MOST_DAYS_PLANNED)) {
            return found(BEYOND);
        }
        return bestTrait(goat, Cliff.TRAIT_KIND, Cliff.KINDS, n);
    }

    public int growsFor(int page, int n) {
        if (!isPage(page) || !isWithin(n, MOST_DAYS_PLANNED)) {
            return found(BEYOND);
        }
        for (int grows = 0; grows <= MOST_GROWS; grows++) {
            trial.become(cliff);
            trial.grows = grows;
            trial.passDays(n);
            if (trial.isInPrint(page)) {
                return grows;
            }
        }
        return found(NONE);
    }

    public int cover(int pages) {
        if (!isWithin(pages, Cliff.ALL_PAGES)) {
            return found(BEYOND);
        }
        int best = -1;
        int sets = 1 << cliff.goats;
        for (int goats = 0; goats < sets; goats++) {
            boolean isFewer = best < 0 || Integer.bitCount(goats) < Integer.bitCount(best);
            if (isFewer && (pages & ~cliff.pagesOf(goats)) == 0) {
                best = goats;
            }
        }
        return best < 0 ? found(NONE) : best;
    }

    public int price(int pages) {
        if (!isWithin(pages, Cliff.ALL_PAGES)) {
            return found(BEYOND);
        }
        int sum = 0;
        for (int page = 0; page < Cliff.PAGES; page++) {
            if (hasBit(pages, page)) {
                int teller = cliff.cheapestQuoting(page);
                if (teller < 0) {
                    return found(NONE);
                }
                sum += cliff.costs(teller);
            }
        }
        return sum;
    }

    public int censor(int page, int n) {
        if (!isPage(page) || !isWithin(n, 12)) {
            return found(BEYOND);
        }
        int sets = 1 << cliff.goats;
        int best = sets - 1;
        for (int gone = 0; gone < sets; gone++) {
            boolean isFewer = Integer.bitCount(gone) < Integer.bitCount(best);
            if (isFewer && isLostWithout(gone, page, n)) {
                best = gone;
            }
        }
        return best;
    }

    // ---- as told

    public int kinds(int s, int goat) {
        return traitsAsTold(s, goat, Cliff.TRAIT_KIND, Cliff.KINDS, Cliff.TRAIT_LEDGE);
    }

    public int fits(int s, int goat) {
        return traitsAsTold(s, goat, Cliff.TRAIT_LEDGE, Cliff.LEDGES, Cliff.TRAIT_FED);
    }

    // ---- landslips

    public int slips(int n) {
        if (n < 1 || n > 20) {
            return found(BEYOND);
        }
        if (cliff.day + n > Cliff.MOST_DAY) {
            return found(STATE);
        }
        for (int i = 0; i < n; i++) {
            cliff.slip();
            cliff.passDay();
        }
        return cliff.pagesKnown();
    }

    public long odds(int n, int what) {
        if (!isWithin(n, 15) || !isWithin(what, 1)) {
            return found(BEYOND);
        }
        int above = Integer.bitCount(cliff.pagesKnown());
        int below = Cliff.PAGES;
        // PAGES is a power of two, so halving alone brings the fraction to lowest terms.
        while (below > 1 && above % 2 == 0) {
            above /= 2;
            below /= 2;
        }
        return power(what == 0 ? above : below, n);
    }

    public int seed(int v) {
        int was = cliff.z;
        cliff.z = v;
        return was;
    }

    // ---- texts

    public int feed(int bytes, int n) {
        if (n < 1 || n > 4) {
            return found(BEYOND);
        }
        if (tape.length + n > Tape.MOST_BYTES) {
            return found(FULL);
        }
        tape.append(bytes, n);
        return tape.length;
    }

    public int wipe() {
        int had = tape.length;
        tape.length = 0;
        return had;
    }

    public int text() {
        trial.become(cliff);
        int answer = reader.readText();
        if (answer >= 0) {
            cliff.become(trial);
        }
        tape.length = 0;
        return answer;
    }

    // ---- spots, sheets

    public int hold(int spot, int goat) {
        if (!isSpot(spot) || (goat != -1 && !isGoat(goat))) {
            return found(BEYOND);
        }
        cliff.spots[spot] = goat;
        return 1;
    }

    public int as(int spot, int kind) {
        if (!isSpot(spot) || !isKind(kind)) {
            return found(BEYOND);
        }
        int goat = cliff.spots[spot];
        if (!isGoat(goat)) {
            return found(MISSING);
        }
        if (!Cliff.isOfKind(cliff.kind[goat], kind)) {
            return found(KIND);
        }
        return goat;
    }

    public int sheet(int s, int bits, int n) {
        if (!isSheet(s) || (bits != 0 && bits != 8 && bits != 16 && bits != 32)) {
            return found(BEYOND);
        }
        if (n < 0) {
            return found(SIZE);
        }
        if (n > Sheet.MOST_NUMBERS) {
            return found(BEYOND);
        }
        sheets[s].begin(bits, n);
        return sheets[s].length;
    }

    public int write(int s, int i, int v) {
        if (!isSheet(s)) {
            return found(BEYOND);
        }
        if (sheets[s].isMissing()) {
            return found(MISSING);
        }
        if (i < 0 || i >= sheets[s].length) {
            return found(BEYOND);
        }
        sheets[s].numbers[i] = sheets[s].cut(v);
        return 1;
    }

    public int copy(int s, int from, int t, int to, int n) {
        if (!isSheet(s) || !isSheet(t)) {
            return found(BEYOND);
        }
        if (sheets[s].isMissing() || sheets[t].isMissing()) {
            return found(MISSING);
        }
        if (sheets[s].bits != sheets[t].bits) {
            return found(KIND);
        }
        if (!sheets[s].hasRange(from, n) || !sheets[t].hasRange(to, n)) {
            return found(BEYOND);
        }
        System.arraycopy(sheets[s].numbers, from, sheets[t].numbers, to, n);
        return n;
    }

    public int load(int s) {
        if (!isSheet(s)) {
            return found(BEYOND);
        }
        if (sheets[s].isMissing()) {
            return found(MISSING);
        }
        int came = 0;
        int most = Math.min(sheets[s].length, Cliff.LEDGES);
        while (came < most && isWithin(sheets[s].numbers[came], Cliff.MOST_GRASS)) {
            cliff.grass[came] = sheets[s].numbers[came];
            came++;
        }
        return came;
    }

    public int judge(int s) {
        if (!isSheet(s)) {
            return found(BEYOND);
        }
        if (sheets[s].isMissing()) {
            return found(MISSING);
        }
        for (int i = 0; i < sheets[s].length; i++) {
            if (!isGoat(i) || cliff.knows[i] != sheets[s].numbers[i]) {
                return 1 + i;
            }
        }
        return 0;
    }

    // ---- images

    public int image() {
        kept.become(cliff);
        isKept = true;
        return 1;
    }

    public int undo() {
        if (!isKept) {
            return found(NONE);
        }
        cliff.become(kept);
        return cliff.day;
    }

    public int tear() {
        int was = isKept ? 1 : 0;
        isKept = false;
        return was;
    }

    public int count(int what) {
        switch (what) {
            case 0: return cliff.day;
            case 1: return cliff.goats;
            case 2: return Integer.bitCount(cliff.pagesKnown());
            case 3: return cliff.salt;
            case 4: return cliff.grassInAll();
            case 5: return tape.length;
            case 6: return cliff.z;
            case 7: return cliff.spotsInUse();
            default: return found(BEYOND);
        }
    }

    public int status(int which) {
        if (which < -1 || which >= FINDINGS) {
            return found(BEYOND);
        }
        if (which >= 0) {
            return findings[which];
        }
        int sum = 0;
        for (int i = 0; i < FINDINGS; i++) {
            sum += findings[i];
        }
        return sum;
    }

    // ---- what the acts share

    /** Counts a finding, and hands it on as the answer. */
    private int found(int finding) {
        int which = BEYOND - finding;
        if (which >= 0 && which < FINDINGS) {
            findings[which]++;
        }
        return finding;
    }

    private boolean isGoat(int goat) {
        return goat >= 0 && goat < cliff.goats;
    }

    private static boolean isWithin(int v, int most) {
        return v >= 0 && v <= most;
    }

    private static boolean isLedge(int ledge) {
        return ledge >= 0 && ledge < Cliff.LEDGES;
    }

    private static boolean isPage(int page) {
        return page >= 0 && page < Cliff.PAGES;
    }

    private static boolean isKind(int kind) {
        return kind >= 0 && kind < Cliff.KINDS;
    }

    private static boolean isSpot(int spot) {
        return spot >= 0 && spot < SPOTS;
    }

    private static boolean isSheet(int s) {
        return s >= 0 && s < SHEETS;
    }

    private static boolean hasBit(int set, int bit) {
        return (set >> bit & 1) != 0;
    }

    private static int leastBit(int set) {
        return set & -set;
    }

    private static boolean isTraitValue(int what, int v) {
        switch (what) {
            case Cliff.TRAIT_KIND: return isKind(v);
            case Cliff.TRAIT_LEDGE: return isLedge(v);
            case Cliff.TRAIT_KNOWS: return isWithin(v, Cliff.ALL_PAGES);
            case Cliff.TRAIT_AGE: return isWithin(v, Cliff.MOST_AGE);
            case Cliff.TRAIT_FED: return isWithin(v, Cliff.MOST_FED);
            case Cliff.TRAIT_ASKED: return isWithin(v, Cliff.MOST_ASKED);
            default: return false;
        }
    }

    private static long power(int base, int n) {
        long product = 1;
        for (int i = 0; i < n; i++) {
            product *= base;
        }
        return product;
    }

    /** Behind how many DAYS, the fewest, something has come; a and b are what the act that asks was given. */
    private int daysUntil(int event, int a, int b) {
        trial.become(cliff);
        for (int days = 0; days <= MOST_DAYS_AHEAD; days++) {
            if (hasCome(event, a, b)) {
                return days;
            }
            trial.passDay();
        }
        return found(NONE);
    }

    private boolean hasCome(int event, int a, int b) {
        switch (event) {
            case LEARNS: return hasBit(trial.knows[a], b);
            case LOST: return !trial.isInPrint(a);
            case MEET: return trial.ledge[a] == trial.ledge[b];
            default: return trial.ledge[a] == b;
        }
    }

    /** The least value of a trait with which a GOAT KNOWS most PAGES behind n DAYS. */
    private int bestTrait(int goat, int trait, int values, int n) {
        int best = 0;
        int most = -1;
        for (int v = 0; v < values; v++) {
            trial.become(cliff);
            trial.setTrait(goat, trait, v);
            trial.passDays(n);
            int pages = Integer.bitCount(trial.knows[goat]);
            if (pages > most) {
                most = pages;
                best = v;
            }
        }
        return best;
    }

    private boolean isLostWithout(int gone, int page, int n) {
        trial.become(cliff);
        trial.gone = gone;
        trial.passDays(n);
        return !trial.isInPrint(page);
    }

    /** The values of a trait, as a set, with which another trait is as a sheet tells, day by day. */
    private int traitsAsTold(int s, int goat, int trait, int values, int told) {
        if (!isSheet(s)) {
            return found(BEYOND);
        }
        if (sheets[s].isMissing()) {
            return found(MISSING);
        }
        if (!isGoat(goat)) {
            return found(BEYOND);
        }
        int set = 0;
        for (int v = 0; v < values; v++) {
            trial.become(cliff);
            trial.setTrait(goat, trait, v);
            if (comesAsTold(sheets[s], goat, told)) {
                set |= 1 << v;
            }
        }
        return set;
    }

    private boolean comesAsTold(Sheet sheet, int goat, int told) {
        for (int i = 0; i < sheet.length; i++) {
            if (i > 0) {
                trial.passDay();
            }
            if (sheet.numbers[i] != -1 && sheet.numbers[i] != trial.trait(goat, told)) {
                return false;
            }
        }
        return true;
    }

    /** All that an image keeps: LEDGES, GOATS, SPOTS, DAY, SALT and z, and the rules by which DAYS go by. */
    private static final class Cliff {
        static final int LEDGES = 12;
        static final int GOATS = 8;
        static final int PAGES = 16;
        static final int KINDS = 7;

        static final int GOAT = 0;
        static final int NANNY = 1;
        static final int BILLY = 2;
        static final int GREY = 3;
        static final int OLD = 4;
        static final int WHITE = 5;
        static final int KID = 6;

        static final int TRAIT_KIND = 0;
        static final int TRAIT_LEDGE = 1;
        static final int TRAIT_KNOWS = 2;
        static final int TRAIT_AGE = 3;
        static final int TRAIT_FED = 4;
        static final int TRAIT_ASKED = 5;

        static final int ALL_PAGES = 65535;
        static final int KID_PAGES = 255;
        static final int MOST_GRASS = 99;
        static final int MOST_AGE = 9999;
        static final int MOST_FED = 99;
        static final int MOST_ASKED = 9999;
        static final int MOST_DAY = 99999;

        final int[] grass = new int[LEDGES];
        final int[] kind = new int[GOATS];
        final int[] ledge = new int[GOATS];
        final int[] knows = new int[GOATS];
        final int[] age = new int[GOATS];
        final int[] fed = new int[GOATS];
        final int[] asked = new int[GOATS];
        /** What each SPOT holds; -1 is nothing. */
        final int[] spots = new int[SPOTS];
        int goats;
        /** GOATS that are away, as a set: none but where censor() looks ahead. */
        int gone;
        int grows;
        int salt;
        int day;
        int z;

        Cliff() {
            for (int i = 0; i < LEDGES; i++) {
                grass[i] = 20;
            }
            for (int i = 0; i < SPOTS; i++) {
                spots[i] = -1;
            }
            grows = 2;
            salt = 50;
            z = 1;
        }

        void become(Cliff other) {
            System.arraycopy(other.grass, 0, grass, 0, LEDGES);
            System.arraycopy(other.kind, 0, kind, 0, GOATS);
            System.arraycopy(other.ledge, 0, ledge, 0, GOATS);
            System.arraycopy(other.knows, 0, knows, 0, GOATS);
            System.arraycopy(other.age, 0, age, 0, GOATS);
            System.arraycopy(other.fed, 0, fed, 0, GOATS);
            System.arraycopy(other.asked, 0, asked, 0, GOATS);
            System.arraycopy(other.spots, 0, spots, 0, SPOTS);
            goats = other.goats;
            gone = other.gone;
            grows = other.grows;
            salt = other.salt;
            day = other.day;
            z = other.z;
        }

        boolean isFull() {
            return goats >= GOATS;
        }

        /** The caller has asked isFull() before. */
        int addGoat(int ofKind, int onLedge) {
            int g = goats;
            kind[g] = ofKind;
            ledge[g] = onLedge;
            knows[g] = 0;
            age[g] = 0;
            fed[g] = 30;
            asked[g] = 0;
            goats++;
            return g;
        }

        int trait(int g, int what) {
            switch (what) {
                case TRAIT_KIND: return kind[g];
                case TRAIT_LEDGE: return ledge[g];
                case TRAIT_KNOWS: return knows[g];
                case TRAIT_AGE: return age[g];
                case TRAIT_FED: return fed[g];
                default: return asked[g];
            }
        }

        void setTrait(int g, int what, int v) {
            switch (what) {
                case TRAIT_KIND: kind[g] = v; break;
                case TRAIT_LEDGE: ledge[g] = v; break;
                case TRAIT_KNOWS: knows[g] = v; break;
                case TRAIT_AGE: age[g] = v; break;
                case TRAIT_FED: fed[g] = v; break;
                default: asked[g] = v; break;
            }
        }

        // -- kinds

        static boolean isOfKind(int kind, int wanted) {
            int k = kind;
            for (int i = 0; i < KINDS && k != wanted && k != GOAT; i++) {
                k = kindAbove(k);
            }
            return k == wanted;
        }

        private static int kindAbove(int kind) {
            switch (kind) {
                case GREY: return BILLY;
                case OLD: return GREY;
                case KID: return NANNY;
                default: return GOAT;
            }
        }

        /** PAGES that a GOAT would tell now if it is asked, as a set. */
        int quotes(int g) {
            switch (kind[g]) {
                case NANNY: return fed[g] >= 10 ? knows[g] : 0;
                case KID: return fed[g] >= 10 ? knows[g] & KID_PAGES : 0;
                case BILLY: return ledge[g] % 2 == 0 ? knows[g] : 0;
                case OLD: return knows[g] & ~skippedAt(age[g]);
                case WHITE: return ledge[g] == LEDGES - 1 ? knows[g] : 0;
                default: return knows[g];
            }
        }

        /** PAGES that an OLD one of an AGE skips, as a set. */
        private static int skippedAt(int age) {
            int set = 0;
            for (int page = 0; page < PAGES; page++) {
                if ((page + age) % 3 == 0) {
                    set |= 1 << page;
                }
            }
            return set;
        }

        int costs(int g) {
            int ofNanny = 2 + ledge[g];
            int ofBilly = 2 + Integer.bitCount(knows[g]) / 2;
            switch (kind[g]) {
                case NANNY: return ofNanny;
                case KID: return ofNanny / 2;
                case BILLY: return ofBilly;
                case GREY: return ofBilly - 1;
                case OLD: return ofBilly - 1 + age[g] / 10;
                case WHITE: return 99;
                default: return 2;
            }
        }

        int grazes(int g) {
            switch (kind[g]) {
                case NANNY: return 7;
                case KID: return 3;
                case BILLY:
                case GREY:
                case OLD: return 6;
                case WHITE: return 2;
                default: return 5;
            }
        }

        /** The LEDGE to which a GOAT would CLIMB now. */
        int climbsTo(int g) {
            int from = ledge[g];
            switch (kind[g]) {
                case BILLY: return (day + g) % 2 == 0 ? greenestNear(from) : from;
                case GREY: return from;
                case OLD: return age[g] % 5 == 0 ? Math.max(from - 1, 0) : from;
                case WHITE: return Math.min(from + 1, LEDGES - 1);
                default: return greenestNear(from);
            }
        }

        private int greenestNear(int from) {
            int best = from;
            if (from + 1 < LEDGES && grass[from + 1] > grass[best]) {
                best = from + 1;
            }
            if (from > 0 && grass[from - 1] > grass[best]) {
                best = from - 1;
            }
            return best;
        }

        // -- days

        void passDays(int n) {
            for (int i = 0; i < n; i++) {
                passDay();
            }
        }

        void passDay() {
            for (int g = 0; g < goats; g++) {
                if (isHere(g)) {
                    climbAndGraze(g);
                }
            }
            for (int g = 0; g < goats; g++) {
                if (isHere(g)) {
                    learnOrForget(g);
                    age[g] = Math.min(age[g] + 1, MOST_AGE);
                }
            }
            for (int i = 0; i < LEDGES; i++) {
                grass[i] = Math.min(grass[i] + grows, MOST_GRASS);
            }
            day = Math.min(day + 1, MOST_DAY);
        }

        private void climbAndGraze(int g) {
            int to = climbsTo(g);
            ledge[g] = to;
            int eaten = Math.min(grazes(g), grass[to]);
            grass[to] -= eaten;
            fed[g] = Math.max(Math.min(fed[g] + eaten, MOST_FED) - 3, 0);
        }

        private void learnOrForget(int g) {
            if (fed[g] >= 20) {
                knows[g] |= leastBit(pagesOn(ledge[g]) & ~knows[g]);
            }
            if (fed[g] == 0) {
                knows[g] = withoutGreatest(knows[g]);
            }
        }

        private static int withoutGreatest(int set) {
            for (int page = PAGES - 1; page >= 0; page--) {
                if (hasBit(set, page)) {
                    return set & ~(1 << page);
                }
            }
            return set;
        }

        /** A landslip: two draws, the first for a LEDGE, the second for a GOAT. */
        void slip() {
            grass[draw() % LEDGES] = 0;
            int g = draw() % GOATS;
            if (g < goats) {
                ledge[g] = 0;
            }
        }

        /** A draw is never below 0, since it has 24 bits. */
        private int draw() {
            z = z * 1103515245 + 12345;
            return z >>> 8;
        }

        // -- sums and sets

        private boolean isHere(int g) {
            return (gone >> g & 1) == 0;
        }

        int goatsOn(int onLedge) {
            int set = 0;
            for (int g = 0; g < goats; g++) {
                if (isHere(g) && ledge[g] == onLedge) {
                    set |= 1 << g;
                }
            }
            return set;
        }

        int goatsKnowing(int page) {
            int set = 0;
            for (int g = 0; g < goats; g++) {
                if (isHere(g) && hasBit(knows[g], page)) {
                    set |= 1 << g;
                }
            }
            return set;
        }

        int pagesOf(int goatSet) {
            int set = 0;
            for (int g = 0; g < goats; g++) {
                if (hasBit(goatSet, g)) {
                    set |= knows[g];
                }
            }
            return set;
        }

        int pagesOn(int onLedge) {
            int set = 0;
            for (int g = 0; g < goats; g++) {
                if (isHere(g) && ledge[g] == onLedge) {
                    set |= knows[g];
                }
            }
            return set;
        }

        int pagesKnown() {
            return pagesOf(~gone);
        }

        boolean isInPrint(int page) {
            return hasBit(pagesKnown(), page);
        }

        /** Who QUOTES a PAGE and COSTS least; -1 if nobody QUOTES it. */
        int cheapestQuoting(int page) {
            int best = -1;
            for (int g = 0; g < goats; g++) {
                if (hasBit(quotes(g), page) && (best < 0 || costs(g) < costs(best))) {
                    best = g;
                }
            }
            return best;
        }

        /** Who KNOWS most PAGES; -1 if there are no GOATS. */
        int wisest() {
            int best = -1;
            for (int g = 0; g < goats; g++) {
                if (best < 0 || Integer.bitCount(knows[g]) > Integer.bitCount(knows[best])) {
                    best = g;
                }
            }
            return best;
        }

        int grassInAll() {
            int sum = 0;
            for (int i = 0; i < LEDGES; i++) {
                sum += grass[i];
            }
            return sum;
        }

        int fedInAll() {
            int sum = 0;
            for (int g = 0; g < goats; g++) {
                sum += fed[g];
            }
            return sum;
        }

        int ledgesWithGoats() {
            int set = 0;
            for (int g = 0; g < goats; g++) {
                set |= 1 << ledge[g];
            }
            return set;
        }

        int spotsInUse() {
            int used = 0;
            for (int i = 0; i < SPOTS; i++) {
                if (spots[i] >= 0) {
                    used++;
                }
            }
            return used;
        }
    }

    /** THE TAPE: bytes, told without a sign. */
    private static final class Tape {
        static final int MOST_BYTES = 120;

        final int[] bytes = new int[MOST_BYTES];
        int length;

        /** The n lowest bytes of a number, the highest first; the caller has asked whether there is room. */
        void append(int number, int n) {
            for (int i = n - 1; i >= 0; i--) {
                bytes[length] = number >>> (8 * i) & 255;
                length++;
            }
        }

        int byteAt(int place) {
            return place >= 0 && place < length ? bytes[place] : -1;
        }
    }

    /** Reads THE TAPE as a TEXT into a cliff, which is spoilt if there is a FAULT. */
    private static final class Reader {
        private static final int END = 0;
        private static final int WORD = 1;
        private static final int NUMBER = 2;
        private static final int SIGN = 3;
        private static final int NO_TOKEN = 4;
        private static final int ABOVE_ALL_NUMBERS = 100000;

        private final Tape tape;
        private final Cliff into;
        private int token;
        private int begin;
        private int end;
        /** What the NUMBER tells that was taken latest. */
        private int number;

        Reader(Tape from, Cliff cliff) {
            tape = from;
            into = cliff;
        }

        /** How many ITEMS there are, or -1 less the FAULT: where a FAULT is, there the latest TOKEN begins. */
        int readText() {
            end = 0;
            stepOn();
            for (int items = 1; items <= Tape.MOST_BYTES; items++) {
                if (!readItem()) {
                    return -1 - begin;
                }
                if (token == END) {
                    return items;
                }
                if (token != SIGN) {
                    return -1 - begin;
                }
                stepOn();
            }
            return -1 - begin;
        }

        private boolean readItem() {
            int kind = kindTold();
            if (kind >= 0) {
                return readGoat(kind);
            }
            if (isWord("grass")) {
                return readGrass();
            }
            if (isWord("grows")) {
                return readGrows();
            }
            return isWord("salt") && readSalt();
        }

        private int kindTold() {
            if (isWord("goat")) {
                return Cliff.GOAT;
            }
            if (isWord("nanny")) {
                return Cliff.NANNY;
            }
            if (isWord("billy")) {
                return Cliff.BILLY;
            }
            if (isWord("grey")) {
                return Cliff.GREY;
            }
            if (isWord("old")) {
                return Cliff.OLD;
            }
            if (isWord("white")) {
                return Cliff.WHITE;
            }
            return isWord("kid") ? Cliff.KID : -1;
        }

        private boolean readGoat(int kind) {
            if (into.isFull()) {
                return false;
            }
            int goat = into.addGoat(kind, 0);
            stepOn();
            return readTrait("on", goat, Cliff.TRAIT_LEDGE, Cliff.LEDGES - 1)
                && readTrait("knows", goat, Cliff.TRAIT_KNOWS, Cliff.ALL_PAGES)
                && readTrait("fed", goat, Cliff.TRAIT_FED, Cliff.MOST_FED);
        }

        /** Reads a WORD and its NUMBER, if the WORD is there. */
        private boolean readTrait(String word, int goat, int trait, int most) {
            if (!isWord(word)) {
                return true;
            }
            stepOn();
            if (!takeNumber(most)) {
                return false;
            }
            into.setTrait(goat, trait, number);
            return true;
        }

        private boolean readGrass() {
            stepOn();
            if (!takeNumber(Cliff.LEDGES - 1)) {
                return false;
            }
            int ledge = number;
            if (!takeNumber(Cliff.MOST_GRASS)) {
                return false;
            }
            into.grass[ledge] = number;
            return true;
        }

        private boolean readGrows() {
            stepOn();
            if (!takeNumber(MOST_GROWS)) {
                return false;
            }
            into.grows = number;
            return true;
        }

        private boolean readSalt() {
            stepOn();
            if (!takeNumber(MOST_SALT)) {
                return false;
            }
            into.salt = number;
            return true;
        }

        /** Takes the TOKEN and steps on, if it is a NUMBER from 0 to the most; else stays at it. */
        private boolean takeNumber(int most) {
            if (token != NUMBER || value() > most) {
                return false;
            }
            number = value();
            stepOn();
            return true;
        }

        private int value() {
            int v = 0;
            for (int place = begin; place < end; place++) {
                v = Math.min(v * 10 + tape.byteAt(place) - '0', ABOVE_ALL_NUMBERS);
            }
            return v;
        }

        private boolean isWord(String word) {
            if (token != WORD || end - begin != word.length()) {
                return false;
            }
            for (int i = 0; i < word.length(); i++) {
                if (tape.byteAt(begin + i) != word.charAt(i)) {
                    return false;
                }
            }
            return true;
        }

        /** Goes on to the next TOKEN; the END begins behind the last byte. */
        private void stepOn() {
            begin = end;
            while (begin < tape.length && tape.byteAt(begin) == ' ') {
                begin++;
            }
            token = tokenBeginningWith(tape.byteAt(begin));
            end = begin;
            if (token == WORD || token == NUMBER) {
                while (end < tape.length && tokenBeginningWith(tape.byteAt(end)) == token) {
                    end++;
                }
            } else if (token == SIGN) {
                end++;
            }
        }

        private static int tokenBeginningWith(int sign) {
            if (sign < 0) {
                return END;
            }
            if (sign >= 'a' && sign <= 'z') {
                return WORD;
            }
            if (sign >= '0' && sign <= '9') {
                return NUMBER;
            }
            return sign == ';' ? SIGN : NO_TOKEN;
        }
    }

    /** A row of numbers of as many bits each; of 0 bits it is MISSING. */
    private static final class Sheet {
        static final int MOST_NUMBERS = 40;

        final int[] numbers = new int[MOST_NUMBERS];
        int bits;
        int length;

        boolean isMissing() {
            return bits == 0;
        }

        void begin(int ofBits, int n) {
            bits = ofBits;
            length = ofBits == 0 ? 0 : n;
            for (int i = 0; i < MOST_NUMBERS; i++) {
                numbers[i] = 0;
            }
        }

        int cut(int v) {
            switch (bits) {
                case 8: return (byte) v;
                case 16: return (short) v;
                default: return v;
            }
        }

        boolean hasRange(int from, int n) {
            return from >= 0 && n >= 0 && n <= length && from <= length - n;
        }
    }
}
