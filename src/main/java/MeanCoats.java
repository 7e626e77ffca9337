/** Coats cut for the mean man: who is measured, what is cut from it, whom it fits, and what bribes do to it. */
public final class MeanCoats {
    // Findings: a finding's answer is LOW less its number.
    private static final int LOW = -1000001;
    private static final int BEYOND = 0;
    private static final int FULL = 1;
    private static final int KIND = 2;
    private static final int NONE = 3;
    private static final int STATE = 4;
    private static final int MISSING = 5;
    private static final int SIZE = 6;
    private static final int FINDINGS = 7;

    private static final int LONG = 0;
    private static final int WIDE = 1;
    private static final int MEASURES = 3;
    private static final int LEAST_INCHES = 50;
    private static final int MOST_INCHES = 250;

    private static final int BODY = 0;
    private static final int STRETCHED = 1;
    private static final int BRIBER = 2;
    private static final int TWIN = 3;
    private static final int GIANT = 4;
    private static final int THIN = 5;
    private static final int SLY = 6;
    private static final int NO_KIND = -1;
    private static final int[] KIND_ABOVE = {NO_KIND, BODY, BODY, BODY, STRETCHED, BODY, BRIBER};

    private static final int MEAN = 0;
    private static final int MIDDLE = 1;
    private static final int MOST = 2;
    private static final int NO_RULE = -1;

    // More than any coat lies from any body.
    private static final int FARTHEST = 1000000;

    private static final int MOST_BODIES = 12;
    private static final int MOST_BRIBE = 20;
    private static final int MOST_PINS = 99;
    private static final int MOST_EASE = 999;
    private static final int MOST_PRICE = 99;
    private static final int MOST_FAMINE = 50;
    private static final int MOST_ROUNDS = 20;
    private static final int MOST_ROUNDS_TO_SETTLE = 50;
    private static final int MOST_SPRINGS = 20;
    private static final int MOST_TIMES_MEASURED = 30;
    private static final int MOST_BYTES = 120;
    private static final int SPOTS = 10;
    private static final int NOTHING = -1;
    private static final int SHEETS = 4;
    private static final int MOST_NUMBERS = 40;

    // What bodyOf and change ask for.
    private static final int OF_KIND = 0;
    private static final int OF_MEASURES = 1;
    private static final int OF_BRIBE = 4;
    private static final int OF_PINS = 5;
    private static final int OF_HERE = 6;
    private static final int OF_COUNTS = 7;
    private static final int OF_MEASURED = 8;
    private static final int OF_LAST = 10;

    // What a token of a text is.
    private static final int END = 0;
    private static final int WORD = 1;
    private static final int NUMBER = 2;
    private static final int SIGN = 3;
    private static final int BLANK = 4;
    private static final int NO_TOKEN = 5;
    private static final int MOST_NUMBER = 999;
    private static final int NO_NUMBER = -1;

    private final Town town = new Town();
    private final Town kept = new Town();
    private final Tailor tailor = new Tailor();
    private final Tape tape = new Tape();
    private final Reader reader = new Reader();
    private final Sheet[] sheets = new Sheet[SHEETS];
    private final int[] findings = new int[FINDINGS];
    private final int[] bribesBefore = new int[MOST_BODIES];
    private final int[] coatBefore = new int[MEASURES];
    private boolean isKept = false;

    public MeanCoats() {
        for (int s = 0; s < SHEETS; s++) {
            sheets[s] = new Sheet();
        }
    }

    // ---- bodies

    public int body(int kind) {
        if (!isKind(kind)) {
            return finding(BEYOND);
        }
        if (town.bodies >= MOST_BODIES) {
            return finding(FULL);
        }
        return town.add(kind, 100, 100, 100);
    }

    public int bodyOf(int body, int what) {
        if (!isBody(body) || !within(what, 0, OF_LAST)) {
            return finding(BEYOND);
        }
        return town.tell(body, what);
    }

    public int change(int body, int what, int v) {
        if (!isBody(body) || !Town.mayBecome(what, v)) {
            return finding(BEYOND);
        }
        int was = town.tell(body, what);
        town.put(body, what, v);
        return was;
    }

    public int here(int body, boolean is) {
        if (!isBody(body)) {
            return finding(BEYOND);
        }
        int was = town.tell(body, OF_HERE);
        town.here = is ? town.here | (1 << body) : town.here & ~(1 << body);
        return was;
    }

    public int rule(int v) {
        if (!within(v, MEAN, MOST)) {
            return finding(BEYOND);
        }
        int was = town.rule;
        town.rule = v;
        return was;
    }

    public int ease(int v) {
        if (!within(v, 0, MOST_EASE)) {
            return finding(BEYOND);
        }
        int was = town.ease;
        town.ease = v;
        return was;
    }

    public int price(int v) {
        if (!within(v, 0, MOST_PRICE)) {
            return finding(BEYOND);
        }
        int was = town.price;
        town.price = v;
        return was;
    }

    public int famine(int n) {
        if (!within(n, 1, MOST_FAMINE)) {
            return finding(BEYOND);
        }
        int starved = 0;
        for (int b = 0; b < town.bodies; b++) {
            if (town.isHere(b)) {
                int left = Math.max(LEAST_INCHES, town.inchesOf(b, WIDE) - n);
                town.setInches(b, WIDE, left);
                starved += left == LEAST_INCHES ? 1 : 0;
            }
        }
        return starved;
    }

    // ---- coats

    public int coat(int measure) {
        if (!isMeasure(measure)) {
            return finding(BEYOND);
        }
        if (!cutForAllHere()) {
            return finding(NONE);
        }
        return tailor.coat[measure];
    }

    public int mean(int measure, int part) {
        if (!isMeasure(measure) || !within(part, 0, 1)) {
            return finding(BEYOND);
        }
        if (town.here == 0) {
            return finding(NONE);
        }
        tailor.measureAll(town);
        int above = tailor.sumOf(measure, town.here);
        int below = tailor.timesOf(town.here);
        int told = part == 0 ? above : below;
        int common = greatestDivisor(above, below);
        return common == 0 ? told : told / common;
    }

    public int cost(int body) {
        if (!isBody(body)) {
            return finding(BEYOND);
        }
        if (!cutForAllHere()) {
            return finding(NONE);
        }
        return tailor.costOf(town, body);
    }

    public int fits() {
        return cutForAllHere() ? tailor.fitting(town, town.here) : 0;
    }

    public int costs() {
        int sum = 0;
        if (cutForAllHere()) {
            for (int b = 0; b < town.bodies; b++) {
                sum += town.isHere(b) ? tailor.costOf(town, b) : 0;
            }
        }
        return sum;
    }

    public int fines() {
        int pinned = 0;
        for (int b = 0; b < town.bodies; b++) {
            pinned += town.isHere(b) ? town.tell(b, OF_PINS) : 0;
        }
        return pinned * town.price;
    }

    public int pins(int body) {
        if (!isBody(body)) {
            return finding(BEYOND);
        }
        if (!cutForAllHere()) {
            return finding(NONE);
        }
        int needed = Math.max(0, tailor.farOf(town, body) - town.ease);
        return needed > MOST_PINS ? finding(NONE) : needed;
    }

    public int worst() {
        if (!cutForAllHere()) {
            return finding(NONE);
        }
        int found = 0;
        int most = -1;
        for (int b = 0; b < town.bodies; b++) {
            if (town.isHere(b) && tailor.costOf(town, b) > most) {
                most = tailor.costOf(town, b);
                found = b;
            }
        }
        return found;
    }

    public int marry(int one, int other) {
        if (!isBody(one) || !isBody(other) || one == other) {
            return finding(BEYOND);
        }
        if (!cutForAllHere()) {
            return finding(NONE);
        }
        return tailor.farOfPair(town, one, other);
    }

    public int bride(int body) {
        if (!isBody(body)) {
            return finding(BEYOND);
        }
        if ((town.here & ~(1 << body)) == 0 || !cutForAllHere()) {
            return finding(NONE);
        }
        int found = 0;
        int least = FARTHEST;
        for (int b = 0; b < town.bodies; b++) {
            if (b != body && town.isHere(b) && tailor.farOfPair(town, body, b) < least) {
                least = tailor.farOfPair(town, body, b);
                found = b;
            }
        }
        return found;
    }

    // ---- whom to send away

    public int send(int n) {
        if (!within(n, 0, MOST_BODIES)) {
            return finding(BEYOND);
        }
        tailor.measureAll(town);
        int found = 0;
        int most = fittingIfSent(0);
        int all = Integer.bitCount(town.here);
        // No more can fit than stay: once that many fit, a larger set is of no use.
        for (int size = 1; size <= n && all - size > most; size++) {
            for (int set = 1; set <= town.here; set++) {
                if ((set & ~town.here) == 0 && Integer.bitCount(set) == size && fittingIfSent(set) > most) {
                    most = fittingIfSent(set);
                    found = set;
                }
            }
        }
        return found;
    }

    public int best() {
        tailor.measureAll(town);
        int found = MEAN;
        int most = -1;
        for (int rule = MEAN; rule <= MOST; rule++) {
            int fitting = fittingBy(rule, town.here);
            if (fitting > most) {
                most = fitting;
                found = rule;
            }
        }
        return found;
    }

    public int easeFor() {
        int most = 0;
        if (cutForAllHere()) {
            for (int b = 0; b < town.bodies; b++) {
                most = town.isHere(b) ? Math.max(most, tailor.costOf(town, b)) : most;
            }
        }
        return most;
    }

    public int sways(int body, int measure) {
        if (!isBody(body) || !isMeasure(measure)) {
            return finding(BEYOND);
        }
        if (!town.isHere(body)) {
            return finding(STATE);
        }
        int was = town.inchesOf(body, measure);
        // By no rule does the coat shrink when a body grows: the ends are enough.
        int greatest = coatIfSized(body, measure, MOST_INCHES);
        int least = coatIfSized(body, measure, LEAST_INCHES);
        town.setInches(body, measure, was);
        return greatest - least;
    }

    public int sized(int body, int measure) {
        if (!isBody(body) || !isMeasure(measure)) {
            return finding(BEYOND);
        }
        if (!town.isHere(body)) {
            return finding(STATE);
        }
        int was = town.inchesOf(body, measure);
        int found = LEAST_INCHES;
        int most = -1;
        for (int inches = LEAST_INCHES; inches <= MOST_INCHES; inches++) {
            town.setInches(body, measure, inches);
            tailor.measureAll(town);
            int fitting = fittingBy(town.rule, town.here);
            if (fitting > most) {
                most = fitting;
                found = inches;
            }
        }
        town.setInches(body, measure, was);
        return found;
    }

    // ---- bribes

    public int bribe(int body) {
        if (!isBody(body)) {
            return finding(BEYOND);
        }
        if (!town.bribesHere(body)) {
            return finding(STATE);
        }
        cutForAllHere();
        return bestBribe(body);
    }

    public int settled() {
        cutForAllHere();
        return isSettled() ? 1 : 0;
    }

    public int rounds(int n) {
        if (!within(n, 1, MOST_ROUNDS)) {
            return finding(BEYOND);
        }
        cutForAllHere();
        town.readBribes(bribesBefore);
        for (int i = 0; i < n; i++) {
            doRound();
        }
        int unlike = 0;
        for (int b = 0; b < town.bodies; b++) {
            unlike += town.tell(b, OF_BRIBE) != bribesBefore[b] ? 1 : 0;
        }
        return unlike;
    }

    public int settles() {
        cutForAllHere();
        town.readBribes(bribesBefore);
        int done = 0;
        boolean isSettled = isSettled();
        while (!isSettled && done < MOST_ROUNDS_TO_SETTLE) {
            doRound();
            done++;
            isSettled = isSettled();
        }
        town.writeBribes(bribesBefore);
        return isSettled ? done : finding(NONE);
    }

    // ---- springs

    public int spring() {
        if (town.springs >= MOST_SPRINGS) {
            return finding(FULL);
        }
        if (!cutForAllHere()) {
            return finding(NONE);
        }
        return town.addSpring(tailor.coat);
    }

    public int old(int spring, int measure) {
        if (!isSpring(spring) || !isMeasure(measure)) {
            return finding(BEYOND);
        }
        return town.oldCoat(spring, measure);
    }

    public int lived(int spring) {
        if (!isSpring(spring)) {
            return finding(BEYOND);
        }
        tailor.measureAll(town);
        int sets = 0;
        for (int set = 1; set < (1 << town.bodies); set++) {
            sets += cutsAsIn(spring, set) ? 1 : 0;
        }
        return sets;
    }

    public int surely(int spring, int what) {
        if (!isSpring(spring) || !within(what, 0, 1)) {
            return finding(BEYOND);
        }
        tailor.measureAll(town);
        int inAll = -1;
        int inAny = 0;
        for (int set = 1; set < (1 << town.bodies); set++) {
            if (cutsAsIn(spring, set)) {
                inAll &= set;
                inAny |= set;
            }
        }
        if (inAny == 0) {
            return finding(NONE);
        }
        return what == 0 ? inAll : inAny;
    }

    public int odds(int n) {
        if (!within(n, 1, MOST_TIMES_MEASURED)) {
            return finding(BEYOND);
        }
        if (!cutForAllHere()) {
            return finding(NONE);
        }
        System.arraycopy(tailor.coat, 0, coatBefore, 0, MEASURES);
        int same = 0;
        for (int i = 0; i < n; i++) {
            tailor.measureAll(town);
            slipAll();
            tailor.cutAll(town.here, town.rule);
            same += isCoatAsBefore() ? 1 : 0;
        }
        return same;
    }

    public int seed(int v) {
        int was = town.z;
        town.z = v;
        return was;
    }

    // ---- texts

    public int feed(int bytes, int n) {
        if (!within(n, 1, 4)) {
            return finding(BEYOND);
        }
        if (tape.length + n > MOST_BYTES) {
            return finding(FULL);
        }
        for (int i = n - 1; i >= 0; i--) {
            tape.add((bytes >>> (8 * i)) & 255);
        }
        return tape.length;
    }

    public int wipe() {
        int had = tape.length;
        tape.length = 0;
        return had;
    }

    public int text() {
        // Read once without doing anything: a fault anywhere must leave all as it is.
        int answer = reader.readItems(tape, town, false);
        if (answer >= 0) {
            answer = reader.readItems(tape, town, true);
        }
        tape.length = 0;
        return answer;
    }

    // ---- spots, sheets

    public int hold(int spot, int body) {
        if (!isSpot(spot) || body != NOTHING && !isBody(body)) {
            return finding(BEYOND);
        }
        town.spots[spot] = body;
        return 1;
    }

    public int as(int spot, int kind) {
        if (!isSpot(spot) || !isKind(kind)) {
            return finding(BEYOND);
        }
        int held = town.spots[spot];
        if (held == NOTHING) {
            return finding(MISSING);
        }
        return isUnder(town.tell(held, OF_KIND), kind) ? held : finding(KIND);
    }

    public int sheet(int s, int bits, int n) {
        if (!isSheet(s) || bits != 0 && bits != 8 && bits != 16 && bits != 32) {
            return finding(BEYOND);
        }
        if (n < 0) {
            return finding(SIZE);
        }
        if (n > MOST_NUMBERS) {
            return finding(BEYOND);
        }
        sheets[s].lay(bits, bits == 0 ? 0 : n);
        return sheets[s].length;
    }

    public int write(int s, int i, int v) {
        if (!isSheet(s)) {
            return finding(BEYOND);
        }
        if (sheets[s].isMissing()) {
            return finding(MISSING);
        }
        if (!within(i, 0, sheets[s].length - 1)) {
            return finding(BEYOND);
        }
        sheets[s].put(i, v);
        return 1;
    }

    public int copy(int s, int from, int t, int to, int n) {
        if (!isSheet(s) || !isSheet(t)) {
            return finding(BEYOND);
        }
        if (sheets[s].isMissing() || sheets[t].isMissing()) {
            return finding(MISSING);
        }
        if (sheets[s].bits != sheets[t].bits) {
            return finding(KIND);
        }
        if (!sheets[s].has(from, n) || !sheets[t].has(to, n)) {
            return finding(BEYOND);
        }
        System.arraycopy(sheets[s].numbers, from, sheets[t].numbers, to, n);
        return n;
    }

    public int load(int s) {
        if (!isSheet(s)) {
            return finding(BEYOND);
        }
        if (sheets[s].isMissing()) {
            return finding(MISSING);
        }
        int loaded = 0;
        while (loaded < town.bodies && sheets[s].hasMeasures(loaded * MEASURES)) {
            for (int m = 0; m < MEASURES; m++) {
                town.setInches(loaded, m, sheets[s].numbers[loaded * MEASURES + m]);
            }
            loaded++;
        }
        return loaded;
    }

    public int judge(int s) {
        if (!isSheet(s)) {
            return finding(BEYOND);
        }
        if (sheets[s].isMissing()) {
            return finding(MISSING);
        }
        if (!cutForAllHere()) {
            return finding(NONE);
        }
        int told = sheets[s].length;
        int right = 0;
        while (right < told && right < town.bodies && sheets[s].numbers[right] == tailor.costOf(town, right)) {
            right++;
        }
        return right == told && right == town.bodies ? 0 : 1 + right;
    }

    // ---- images

    public int image() {
        kept.become(town);
        isKept = true;
        return 1;
    }

    public int undo() {
        if (!isKept) {
            return finding(NONE);
        }
        town.become(kept);
        return town.bodies;
    }

    public int tear() {
        int was = isKept ? 1 : 0;
        isKept = false;
        return was;
    }

    public int count(int what) {
        switch (what) {
            case 0:
                return town.bodies;
            case 1:
                return Integer.bitCount(town.here);
            case 2:
                return cutForAllHere() ? Integer.bitCount(tailor.fitting(town, town.here)) : 0;
            case 3:
                return town.springs;
            case 4:
                return tape.length;
            case 5:
                return town.z;
            case 6:
                return town.spotsHeld();
            default:
                return finding(BEYOND);
        }
    }

    public int status(int which) {
        if (!within(which, -1, FINDINGS - 1)) {
            return finding(BEYOND);
        }
        if (which >= 0) {
            return findings[which];
        }
        int all = 0;
        for (int f = 0; f < FINDINGS; f++) {
            all += findings[f];
        }
        return all;
    }

    // ---- what the acts share

    private int finding(int which) {
        findings[which]++;
        return LOW - which;
    }

    private static boolean within(int v, int least, int most) {
        return v >= least && v <= most;
    }

    private static boolean holds(int set, int body) {
        return ((set >> body) & 1) != 0;
    }

    private static boolean isKind(int kind) {
        return within(kind, BODY, SLY);
    }

    private static boolean isMeasure(int measure) {
        return within(measure, 0, MEASURES - 1);
    }

    private static boolean isSpot(int spot) {
        return within(spot, 0, SPOTS - 1);
    }

    private static boolean isSheet(int s) {
        return within(s, 0, SHEETS - 1);
    }

    private boolean isBody(int body) {
        return within(body, 0, town.bodies - 1);
    }

    private boolean isSpring(int spring) {
        return within(spring, 0, town.springs - 1);
    }

    private static boolean isUnder(int kind, int above) {
        int at = kind;
        // No kind lies deeper than all the kinds are many.
        for (int i = BODY; i <= SLY && isKind(at); i++) {
            if (at == above) {
                return true;
            }
            at = KIND_ABOVE[at];
        }
        return false;
    }

    private static int greatestDivisor(int one, int other) {
        int a = one;
        int b = other;
        // Every second step halves it at least, so an int takes 64 steps at most.
        for (int step = 0; step < 64 && b > 0; step++) {
            int rest = a % b;
            a = b;
            b = rest;
        }
        return a;
    }

    private boolean cutForAllHere() {
        tailor.measureAll(town);
        return tailor.cutAll(town.here, town.rule);
    }

    /** How many of a set fit a coat that is cut for them alone; all must have been measured. */
    private int fittingBy(int rule, int set) {
        return tailor.cutAll(set, rule) ? Integer.bitCount(tailor.fitting(town, set)) : 0;
    }

    private int fittingIfSent(int set) {
        return fittingBy(town.rule, town.here & ~set);
    }

    /** Leaves the body so sized. */
    private int coatIfSized(int body, int measure, int inches) {
        town.setInches(body, measure, inches);
        tailor.measureAll(town);
        return tailor.cutOne(measure, town.here, town.rule);
    }

    private boolean cutsAsIn(int spring, int set) {
        for (int m = 0; m < MEASURES; m++) {
            if (tailor.cutOne(m, set, town.rule) != town.oldCoat(spring, m)) {
                return false;
            }
        }
        return true;
    }

    private void slipAll() {
        for (int b = 0; b < town.bodies; b++) {
            if (town.isHere(b)) {
                for (int m = 0; m < MEASURES; m++) {
                    tailor.slip(m, b, town.draw() % 3 - 1);
                }
            }
        }
    }

    private boolean isCoatAsBefore() {
        for (int m = 0; m < MEASURES; m++) {
            if (tailor.coat[m] != coatBefore[m]) {
                return false;
            }
        }
        return true;
    }

    /** The coat must have been cut; a bribe moves it only where it is WIDE, so no more is cut anew. */
    private int costAtBribe(int body, int bribe) {
        tailor.show(WIDE, body, town.widthAtBribe(body, bribe));
        tailor.coat[WIDE] = tailor.cutOne(WIDE, town.here, town.rule);
        return tailor.costOf(town, body);
    }

    /** The coat must have been cut; the body is left shown by the last bribe that was tried. */
    private int bestBribe(int body) {
        int found = 0;
        int least = FARTHEST;
        // 0, -1, 1, -2, 2 and so on: the first of several is the one that is told.
        for (int i = 0; i <= 2 * MOST_BRIBE; i++) {
            int bribe = i % 2 == 0 ? i / 2 : -(i + 1) / 2;
            int cost = costAtBribe(body, bribe);
            if (cost < least) {
                least = cost;
                found = bribe;
            }
        }
        return found;
    }

    private boolean isSettled() {
        for (int b = 0; b < town.bodies; b++) {
            if (town.bribesHere(b)) {
                int least = costAtBribe(b, bestBribe(b));
                int now = costAtBribe(b, town.tell(b, OF_BRIBE));
                if (least < now) {
                    return false;
                }
            }
        }
        return true;
    }

    private void doRound() {
        for (int b = 0; b < town.bodies; b++) {
            if (town.bribesHere(b)) {
                int bribe = bestBribe(b);
                town.put(b, OF_BRIBE, bribe);
                costAtBribe(b, bribe);
            }
        }
    }

    // ---- classes inside

    /** All that an image keeps. */
    private static final class Town {
        private final int[] kinds = new int[MOST_BODIES];
        private final int[] inches = new int[MOST_BODIES * MEASURES];
        private final int[] bribes = new int[MOST_BODIES];
        private final int[] pinned = new int[MOST_BODIES];
        private final int[] oldCoats = new int[MOST_SPRINGS * MEASURES];
        private final int[] spots = new int[SPOTS];
        private int bodies = 0;
        private int here = 0;
        private int rule = MEAN;
        private int ease = 20;
        private int price = 1;
        private int springs = 0;
        private int z = 1;

        private Town() {
            for (int i = 0; i < SPOTS; i++) {
                spots[i] = NOTHING;
            }
        }

        private void become(Town other) {
            System.arraycopy(other.kinds, 0, kinds, 0, MOST_BODIES);
            System.arraycopy(other.inches, 0, inches, 0, MOST_BODIES * MEASURES);
            System.arraycopy(other.bribes, 0, bribes, 0, MOST_BODIES);
            System.arraycopy(other.pinned, 0, pinned, 0, MOST_BODIES);
            System.arraycopy(other.oldCoats, 0, oldCoats, 0, MOST_SPRINGS * MEASURES);
            System.arraycopy(other.spots, 0, spots, 0, SPOTS);
            bodies = other.bodies;
            here = other.here;
            rule = other.rule;
            ease = other.ease;
            price = other.price;
            springs = other.springs;
            z = other.z;
        }

        /** The new body's number; there must be room for one more. */
        private int add(int kind, int longs, int wide, int arm) {
            int body = bodies;
            kinds[body] = kind;
            inches[body * MEASURES] = longs;
            inches[body * MEASURES + 1] = wide;
            inches[body * MEASURES + 2] = arm;
            bribes[body] = 0;
            pinned[body] = 0;
            here |= 1 << body;
            bodies++;
            return body;
        }

        private int tell(int body, int what) {
            if (what >= OF_MEASURED) {
                return measuredOf(body, what - OF_MEASURED);
            }
            switch (what) {
                case OF_KIND:
                    return kinds[body];
                case OF_BRIBE:
                    return bribes[body];
                case OF_PINS:
                    return pinned[body];
                case OF_HERE:
                    return isHere(body) ? 1 : 0;
                case OF_COUNTS:
                    return timesOf(body);
                default:
                    return inchesOf(body, what - OF_MEASURES);
            }
        }

        private static boolean mayBecome(int what, int v) {
            switch (what) {
                case OF_KIND:
                    return isKind(v);
                case OF_MEASURES:
                case OF_MEASURES + 1:
                case OF_MEASURES + 2:
                    return within(v, LEAST_INCHES, MOST_INCHES);
                case OF_BRIBE:
                    return within(v, -MOST_BRIBE, MOST_BRIBE);
                case OF_PINS:
                    return within(v, 0, MOST_PINS);
                default:
                    return false;
            }
        }

        private void put(int body, int what, int v) {
            switch (what) {
                case OF_KIND:
                    kinds[body] = v;
                    break;
                case OF_BRIBE:
                    bribes[body] = v;
                    break;
                case OF_PINS:
                    pinned[body] = v;
                    break;
                default:
                    setInches(body, what - OF_MEASURES, v);
                    break;
            }
        }

        private boolean isHere(int body) {
            return holds(here, body);
        }

        private boolean bribesHere(int body) {
            return isHere(body) && isUnder(kinds[body], BRIBER);
        }

        private int inchesOf(int body, int measure) {
            return inches[body * MEASURES + measure];
        }

        private void setInches(int body, int measure, int v) {
            inches[body * MEASURES + measure] = v;
        }

        private int measuredOf(int body, int measure) {
            if (measure == WIDE) {
                return widthAtBribe(body, bribes[body]);
            }
            int more = measure == LONG && isUnder(kinds[body], STRETCHED) ? 2 : 0;
            return inchesOf(body, measure) + more;
        }

        private int widthAtBribe(int body, int bribe) {
            int wide = inchesOf(body, WIDE);
            switch (kinds[body]) {
                case BRIBER:
                    return wide + bribe;
                case SLY:
                    return wide + 2 * bribe;
                case THIN:
                    return wide - 10;
                default:
                    return wide;
            }
        }

        private int timesOf(int body) {
            switch (kinds[body]) {
                case TWIN:
                    return 2;
                case GIANT:
                    return 3;
                default:
                    return 1;
            }
        }

        private void readBribes(int[] into) {
            System.arraycopy(bribes, 0, into, 0, MOST_BODIES);
        }

        private void writeBribes(int[] from) {
            System.arraycopy(from, 0, bribes, 0, MOST_BODIES);
        }

        /** How many there are then; there must be room for one more. */
        private int addSpring(int[] coat) {
            System.arraycopy(coat, 0, oldCoats, springs * MEASURES, MEASURES);
            springs++;
            return springs;
        }

        private int oldCoat(int spring, int measure) {
            return oldCoats[spring * MEASURES + measure];
        }

        private int draw() {
            z = z * 1103515245 + 12345;
            return z >>> 8;
        }

        private int spotsHeld() {
            int held = 0;
            for (int i = 0; i < SPOTS; i++) {
                held += spots[i] != NOTHING ? 1 : 0;
            }
            return held;
        }
    }

    /** Measures and cuts. Its rows are laid once and used again, as a run's calls share one room. */
    private static final class Tailor {
        private final int[] shown = new int[MOST_BODIES * MEASURES];
        private final int[] rising = new int[MOST_BODIES * MEASURES];
        private final int[] times = new int[MOST_BODIES];
        private final int[] coat = new int[MEASURES];
        private int bodies = 0;

        private void measureAll(Town town) {
            bodies = town.bodies;
            for (int b = 0; b < bodies; b++) {
                times[b] = town.timesOf(b);
            }
            for (int m = 0; m < MEASURES; m++) {
                for (int b = 0; b < bodies; b++) {
                    shown[m * MOST_BODIES + b] = town.measuredOf(b, m);
                    rising[m * MOST_BODIES + b] = b;
                }
                arrange(m);
            }
        }

        private void show(int measure, int body, int v) {
            shown[measure * MOST_BODIES + body] = v;
            arrange(measure);
        }

        private void slip(int measure, int body, int by) {
            show(measure, body, shown[measure * MOST_BODIES + body] + by);
        }

        /** Keeps the bodies in rising order, so that a middle is found by one walk. */
        private void arrange(int measure) {
            int row = measure * MOST_BODIES;
            for (int i = 1; i < bodies; i++) {
                int body = rising[row + i];
                int at = i;
                while (at > 0 && shown[row + rising[row + at - 1]] > shown[row + body]) {
                    rising[row + at] = rising[row + at - 1];
                    at--;
                }
                rising[row + at] = body;
            }
        }

        /** Whether there is a coat for a set; it is left in coat then. */
        private boolean cutAll(int set, int rule) {
            if (set == 0) {
                return false;
            }
            for (int m = 0; m < MEASURES; m++) {
                coat[m] = cutOne(m, set, rule);
            }
            return true;
        }

        private int cutOne(int measure, int set, int rule) {
            switch (rule) {
                case MIDDLE:
                    return middleOf(measure, set);
                case MOST:
                    return greatestOf(measure, set);
                default:
                    return cutMeanOf(measure, set);
            }
        }

        private int cutMeanOf(int measure, int set) {
            int below = timesOf(set);
            return below == 0 ? 0 : sumOf(measure, set) / below;
        }

        private int sumOf(int measure, int set) {
            int sum = 0;
            for (int b = 0; b < bodies; b++) {
                if (holds(set, b)) {
                    sum += shown[measure * MOST_BODIES + b] * times[b];
                }
            }
            return sum;
        }

        private int timesOf(int set) {
            int sum = 0;
            for (int b = 0; b < bodies; b++) {
                if (holds(set, b)) {
                    sum += times[b];
                }
            }
            return sum;
        }

        private int middleOf(int measure, int set) {
            int row = measure * MOST_BODIES;
            int place = (timesOf(set) - 1) / 2;
            for (int i = 0; i < bodies; i++) {
                int body = rising[row + i];
                if (holds(set, body)) {
                    place -= times[body];
                    if (place < 0) {
                        return shown[row + body];
                    }
                }
            }
            return 0;
        }

        private int greatestOf(int measure, int set) {
            int row = measure * MOST_BODIES;
            for (int i = bodies - 1; i >= 0; i--) {
                int body = rising[row + i];
                if (holds(set, body)) {
                    return shown[row + body];
                }
            }
            return 0;
        }

        private int farOf(Town town, int body) {
            int far = 0;
            for (int m = 0; m < MEASURES; m++) {
                far += Math.abs(town.inchesOf(body, m) - coat[m]);
            }
            return far;
        }

        private int farOfPair(Town town, int one, int other) {
            int far = 0;
            for (int m = 0; m < MEASURES; m++) {
                int half = (town.inchesOf(one, m) + town.inchesOf(other, m)) / 2;
                far += Math.abs(half - coat[m]);
            }
            return far;
        }

        private int costOf(Town town, int body) {
            return Math.max(0, farOf(town, body) - town.pinned[body]);
        }

        /** Those of a set whom the coat fits, as bits. */
        private int fitting(Town town, int set) {
            int fit = 0;
            for (int b = 0; b < bodies; b++) {
                if (holds(set, b) && costOf(town, b) <= town.ease) {
                    fit |= 1 << b;
                }
            }
            return fit;
        }
    }

    /** The tape and, when it has been split, its tokens, one of which a reader has come to. */
    private static final class Tape {
        private final int[] bytes = new int[MOST_BYTES];
        private final int[] begins = new int[MOST_BYTES + 1];
        private final int[] ends = new int[MOST_BYTES + 1];
        private final int[] sorts = new int[MOST_BYTES + 1];
        private int length = 0;
        private int tokens = 0;
        private int at = 0;

        private void add(int b) {
            if (length < MOST_BYTES) {
                bytes[length] = b;
                length++;
            }
        }

        /** Comes to the first token; behind the last one stands an end, which begins where the tape ends. */
        private void split() {
            tokens = 0;
            at = 0;
            int last = BLANK;
            for (int i = 0; i < length; i++) {
                int sort = sortOf(bytes[i]);
                boolean goesOn = sort == last && tokens > 0 && (sort == WORD || sort == NUMBER);
                if (goesOn) {
                    ends[tokens - 1] = i + 1;
                } else if (sort != BLANK) {
                    lay(tokens, i, i + 1, sort);
                    tokens++;
                }
                last = sort;
            }
            lay(tokens, length, length, END);
        }

        private void lay(int token, int begin, int end, int sort) {
            begins[token] = begin;
            ends[token] = end;
            sorts[token] = sort;
        }

        private static int sortOf(int b) {
            if (within(b, 'a', 'z')) {
                return WORD;
            }
            if (within(b, '0', '9')) {
                return NUMBER;
            }
            if (b == ';' || b == '-') {
                return SIGN;
            }
            return b == ' ' ? BLANK : NO_TOKEN;
        }

        private void moveOn() {
            if (at < tokens) {
                at++;
            }
        }

        private int begin() {
            return begins[at];
        }

        private boolean isEnd() {
            return sorts[at] == END;
        }

        private boolean isSign(char sign) {
            return sorts[at] == SIGN && bytes[begins[at]] == sign;
        }

        private boolean isWord(String word) {
            if (sorts[at] != WORD || word.length() != ends[at] - begins[at]) {
                return false;
            }
            for (int i = 0; i < word.length(); i++) {
                if (bytes[begins[at] + i] != word.charAt(i)) {
                    return false;
                }
            }
            return true;
        }

        /** What the token tells, or NO_NUMBER where it is none from least to most. */
        private int numberWithin(int least, int most) {
            if (sorts[at] != NUMBER) {
                return NO_NUMBER;
            }
            int v = 0;
            for (int i = begins[at]; i < ends[at]; i++) {
                // One above the most is kept: that's enough to tell that it is too great.
                v = Math.min(MOST_NUMBER + 1, v * 10 + bytes[i] - '0');
            }
            return within(v, least, most) ? v : NO_NUMBER;
        }
    }

    /** Reads a text's items; where one can't go on, the tape has come to the token that is the fault. */
    private static final class Reader {
        private final int[] inches = new int[MEASURES];
        private int bribe = 0;
        private int pinned = 0;
        private int room = 0;

        /** How many items there are, or -1 less the fault. */
        private int readItems(Tape tape, Town town, boolean doing) {
            room = MOST_BODIES - town.bodies;
            tape.split();
            // An item takes a byte at least.
            for (int items = 1; items <= MOST_BYTES; items++) {
                if (!readItem(tape, town, doing)) {
                    return -1 - tape.begin();
                }
                if (tape.isEnd()) {
                    return items;
                }
                if (!tape.isSign(';')) {
                    return -1 - tape.begin();
                }
                tape.moveOn();
            }
            return -1 - tape.begin();
        }

        private boolean readItem(Tape tape, Town town, boolean doing) {
            int kind = kindTold(tape);
            if (kind != NO_KIND) {
                return readBody(tape, town, kind, doing);
            }
            if (tape.isWord("rule")) {
                return readRule(tape, town, doing);
            }
            if (tape.isWord("ease")) {
                return readEase(tape, town, doing);
            }
            return tape.isWord("price") && readPrice(tape, town, doing);
        }

        private static int kindTold(Tape tape) {
            for (int kind = BODY; kind <= SLY; kind++) {
                if (tape.isWord(nameOf(kind))) {
                    return kind;
                }
            }
            return NO_KIND;
        }

        private static String nameOf(int kind) {
            switch (kind) {
                case STRETCHED:
                    return "stretched";
                case BRIBER:
                    return "briber";
                case TWIN:
                    return "twin";
                case GIANT:
                    return "giant";
                case THIN:
                    return "thin";
                case SLY:
                    return "sly";
                default:
                    return "body";
            }
        }

        private boolean readBody(Tape tape, Town town, int kind, boolean doing) {
            if (room <= 0) {
                return false;
            }
            room--;
            tape.moveOn();
            if (!readMeasures(tape) || !readBribe(tape) || !readPins(tape)) {
                return false;
            }
            if (doing) {
                int body = town.add(kind, inches[0], inches[1], inches[2]);
                town.put(body, OF_BRIBE, bribe);
                town.put(body, OF_PINS, pinned);
            }
            return true;
        }

        private boolean readMeasures(Tape tape) {
            for (int m = 0; m < MEASURES; m++) {
                inches[m] = takeNumber(tape, LEAST_INCHES, MOST_INCHES);
                if (inches[m] == NO_NUMBER) {
                    return false;
                }
            }
            return true;
        }

        private boolean readBribe(Tape tape) {
            bribe = 0;
            if (!tape.isWord("bribe")) {
                return true;
            }
            tape.moveOn();
            boolean isBelow = tape.isSign('-');
            if (isBelow) {
                tape.moveOn();
            }
            int v = takeNumber(tape, 0, MOST_BRIBE);
            bribe = isBelow ? -v : v;
            return v != NO_NUMBER;
        }

        private boolean readPins(Tape tape) {
            pinned = 0;
            if (!tape.isWord("pins")) {
                return true;
            }
            tape.moveOn();
            pinned = takeNumber(tape, 0, MOST_PINS);
            return pinned != NO_NUMBER;
        }

        private boolean readRule(Tape tape, Town town, boolean doing) {
            tape.moveOn();
            int rule = ruleTold(tape);
            if (rule == NO_RULE) {
                return false;
            }
            town.rule = doing ? rule : town.rule;
            tape.moveOn();
            return true;
        }

        private static int ruleTold(Tape tape) {
            if (tape.isWord("mean")) {
                return MEAN;
            }
            if (tape.isWord("middle")) {
                return MIDDLE;
            }
            return tape.isWord("most") ? MOST : NO_RULE;
        }

        private boolean readEase(Tape tape, Town town, boolean doing) {
            tape.moveOn();
            int v = takeNumber(tape, 0, MOST_EASE);
            town.ease = doing ? v : town.ease;
            return v != NO_NUMBER;
        }

        private boolean readPrice(Tape tape, Town town, boolean doing) {
            tape.moveOn();
            int v = takeNumber(tape, 0, MOST_PRICE);
            town.price = doing ? v : town.price;
            return v != NO_NUMBER;
        }

        /** Moves on behind the number, but stays where there is none such. */
        private static int takeNumber(Tape tape, int least, int most) {
            int v = tape.numberWithin(least, most);
            if (v != NO_NUMBER) {
                tape.moveOn();
            }
            return v;
        }
    }

    /** A row of numbers; of 0 bits it is missing. */
    private static final class Sheet {
        private final int[] numbers = new int[MOST_NUMBERS];
        private int bits = 0;
        private int length = 0;

        private boolean isMissing() {
            return bits == 0;
        }

        private void lay(int newBits, int newLength) {
            bits = newBits;
            length = newLength;
            for (int i = 0; i < MOST_NUMBERS; i++) {
                numbers[i] = 0;
            }
        }

        private void put(int i, int v) {
            int unused = 32 - bits;
            numbers[i] = (v << unused) >> unused;
        }

        private boolean has(int from, int n) {
            return from >= 0 && n >= 0 && n <= length - from;
        }

        private boolean hasMeasures(int from) {
            return has(from, MEASURES)
                && within(numbers[from], LEAST_INCHES, MOST_INCHES)
                && within(numbers[from + 1], LEAST_INCHES, MOST_INCHES)
                && within(numbers[from + 2], LEAST_INCHES, MOST_INCHES);
        }
    }
}
