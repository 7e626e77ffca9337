import java.util.ArrayList;
import java.util.Arrays;
import java.util.Collections;
import java.util.List;
import java.util.regex.Matcher;
import java.util.regex.Pattern;

/** The document told once more, as slowly and plainly as can be, for the program to be held against. */
public final class PlainCoats {
    static final int BEYOND = -1000001;
    static final int FULL = -1000002;
    static final int KIND = -1000003;
    static final int NONE = -1000004;
    static final int STATE = -1000005;
    static final int MISSING = -1000006;
    static final int SIZE = -1000007;

    static final List<String> KINDS = List.of("body", "stretched", "briber", "twin", "giant", "thin", "sly");
    static final List<String> RULES = List.of("mean", "middle", "most");

    static final class Man {
        int kind;
        int[] inches = {100, 100, 100};
        int bribe;
        int pins;
        boolean here = true;

        Man twin() {
            Man man = new Man();
            man.kind = kind;
            man.inches = inches.clone();
            man.bribe = bribe;
            man.pins = pins;
            man.here = here;
            return man;
        }

        int[] measured() {
            int[] row = inches.clone();
            if (kind == 1 || kind == 4) row[0] += 2;
            if (kind == 2) row[1] += bribe;
            if (kind == 6) row[1] += bribe + bribe;
            if (kind == 5) row[1] -= 10;
            return row;
        }

        int counts() {
            return kind == 3 ? 2 : kind == 4 ? 1 + 2 : 1;
        }

        boolean bribes() {
            return here && (kind == 2 || kind == 6);
        }

        boolean isA(int other) {
            return kind == other || other == 0 || kind == 4 && other == 1 || kind == 6 && other == 2;
        }
    }

    static final class Village {
        List<Man> men = new ArrayList<>();
        List<int[]> springs = new ArrayList<>();
        int[] spots = new int[10];
        int rule = 0;
        int ease = 20;
        int price = 1;
        int z = 1;

        Village() {
            Arrays.fill(spots, -1);
        }

        Village twin() {
            Village other = new Village();
            for (Man man : men) other.men.add(man.twin());
            for (int[] spring : springs) other.springs.add(spring.clone());
            other.spots = spots.clone();
            other.rule = rule;
            other.ease = ease;
            other.price = price;
            other.z = z;
            return other;
        }
    }

    Village now = new Village();
    Village image = null;
    List<Integer> tape = new ArrayList<>();
    int[][] sheets = new int[4][];
    int[] sheetBits = new int[4];
    int[] found = new int[7];

    private int no(int finding) {
        found[BEYOND - finding]++;
        return finding;
    }

    private static boolean in(int v, int from, int to) {
        return from <= v && v <= to;
    }

    private boolean isMan(int body) {
        return in(body, 0, now.men.size() - 1);
    }

    private List<Man> here() {
        List<Man> list = new ArrayList<>();
        for (Man man : now.men) if (man.here) list.add(man);
        return list;
    }

    private List<int[]> rows(List<Man> men) {
        List<int[]> rows = new ArrayList<>();
        for (Man man : men) rows.add(man.measured());
        return rows;
    }

    private static int cut(List<Man> men, List<int[]> rows, int measure, int rule) {
        List<Integer> all = new ArrayList<>();
        for (int i = 0; i < men.size(); i++) {
            for (int k = 0; k < men.get(i).counts(); k++) all.add(rows.get(i)[measure]);
        }
        Collections.sort(all);
        if (rule == 1) return all.get((all.size() - 1) / 2);
        if (rule == 2) return all.get(all.size() - 1);
        int sum = 0;
        for (int v : all) sum += v;
        return sum / all.size();
    }

    private int[] coatOf(List<Man> men, int rule) {
        if (men.isEmpty()) return null;
        List<int[]> rows = rows(men);
        return new int[] {cut(men, rows, 0, rule), cut(men, rows, 1, rule), cut(men, rows, 2, rule)};
    }

    private int[] coatNow() {
        return coatOf(here(), now.rule);
    }

    private static int far(int[] inches, int[] coat) {
        int far = 0;
        for (int m = 0; m < 3; m++) far += Math.abs(inches[m] - coat[m]);
        return far;
    }

    private static int costIn(int[] coat, Man man) {
        return Math.max(0, far(man.inches, coat) - man.pins);
    }

    private int fitting(List<Man> men, int rule) {
        int[] coat = coatOf(men, rule);
        int fit = 0;
        for (Man man : men) if (costIn(coat, man) <= now.ease) fit++;
        return fit;
    }

    public int body(int kind) {
        if (!in(kind, 0, 6)) return no(BEYOND);
        if (now.men.size() == 12) return no(FULL);
        Man man = new Man();
        man.kind = kind;
        now.men.add(man);
        return now.men.size() - 1;
    }

    public int bodyOf(int body, int what) {
        if (!isMan(body) || !in(what, 0, 10)) return no(BEYOND);
        Man man = now.men.get(body);
        int[] row = man.measured();
        int[] told = {man.kind, man.inches[0], man.inches[1], man.inches[2], man.bribe, man.pins,
            man.here ? 1 : 0, man.counts(), row[0], row[1], row[2]};
        return told[what];
    }

    public int change(int body, int what, int v) {
        int[][] bounds = {{0, 6}, {50, 250}, {50, 250}, {50, 250}, {-20, 20}, {0, 99}};
        if (!isMan(body) || !in(what, 0, 5) || !in(v, bounds[what][0], bounds[what][1])) return no(BEYOND);
        int was = bodyOf(body, what);
        Man man = now.men.get(body);
        if (what == 0) man.kind = v;
        if (in(what, 1, 3)) man.inches[what - 1] = v;
        if (what == 4) man.bribe = v;
        if (what == 5) man.pins = v;
        return was;
    }

    public int here(int body, boolean is) {
        if (!isMan(body)) return no(BEYOND);
        boolean was = now.men.get(body).here;
        now.men.get(body).here = is;
        return was ? 1 : 0;
    }

    public int rule(int v) {
        if (!in(v, 0, 2)) return no(BEYOND);
        int was = now.rule;
        now.rule = v;
        return was;
    }

    public int ease(int v) {
        if (!in(v, 0, 999)) return no(BEYOND);
        int was = now.ease;
        now.ease = v;
        return was;
    }

    public int price(int v) {
        if (!in(v, 0, 99)) return no(BEYOND);
        int was = now.price;
        now.price = v;
        return was;
    }

    public int famine(int n) {
        if (!in(n, 1, 50)) return no(BEYOND);
        int at = 0;
        for (Man man : here()) {
            man.inches[1] = Math.max(50, man.inches[1] - n);
            if (man.inches[1] == 50) at++;
        }
        return at;
    }

    public int coat(int measure) {
        if (!in(measure, 0, 2)) return no(BEYOND);
        return coatNow() == null ? no(NONE) : coatNow()[measure];
    }

    public int mean(int measure, int part) {
        if (!in(measure, 0, 2) || !in(part, 0, 1)) return no(BEYOND);
        if (here().isEmpty()) return no(NONE);
        int above = 0;
        int below = 0;
        for (Man man : here()) {
            above += man.measured()[measure] * man.counts();
            below += man.counts();
        }
        for (int d = below; d > 1; d--) {
            if (above % d == 0 && below % d == 0) {
                above /= d;
                below /= d;
            }
        }
        return part == 0 ? above : below;
    }

    public int cost(int body) {
        if (!isMan(body)) return no(BEYOND);
        return coatNow() == null ? no(NONE) : costIn(coatNow(), now.men.get(body));
    }

    public int fits() {
        int set = 0;
        for (int b = 0; b < now.men.size(); b++) {
            Man man = now.men.get(b);
            if (man.here && costIn(coatNow(), man) <= now.ease) set |= 1 << b;
        }
        return set;
    }

    public int costs() {
        int sum = 0;
        for (Man man : here()) sum += costIn(coatNow(), man);
        return sum;
    }

    public int fines() {
        int sum = 0;
        for (Man man : here()) sum += man.pins * now.price;
        return sum;
    }

    public int pins(int body) {
        if (!isMan(body)) return no(BEYOND);
        if (coatNow() == null) return no(NONE);
        Man man = now.men.get(body).twin();
        for (man.pins = 0; man.pins <= 99; man.pins++) {
            if (costIn(coatNow(), man) <= now.ease) return man.pins;
        }
        return no(NONE);
    }

    public int worst() {
        if (coatNow() == null) return no(NONE);
        int who = -1;
        for (int b = now.men.size() - 1; b >= 0; b--) {
            if (now.men.get(b).here && (who < 0
                || costIn(coatNow(), now.men.get(b)) >= costIn(coatNow(), now.men.get(who)))) who = b;
        }
        return who;
    }

    private int pairFar(int one, int other) {
        int[] half = new int[3];
        for (int m = 0; m < 3; m++) half[m] = (now.men.get(one).inches[m] + now.men.get(other).inches[m]) / 2;
        return far(half, coatNow());
    }

    public int marry(int one, int other) {
        if (!isMan(one) || !isMan(other) || one == other) return no(BEYOND);
        return coatNow() == null ? no(NONE) : pairFar(one, other);
    }

    public int bride(int body) {
        if (!isMan(body)) return no(BEYOND);
        int who = -1;
        for (int b = now.men.size() - 1; b >= 0; b--) {
            if (b != body && now.men.get(b).here && (who < 0 || pairFar(body, b) <= pairFar(body, who))) who = b;
        }
        return who < 0 ? no(NONE) : who;
    }

    private List<Man> menOf(int set) {
        List<Man> men = new ArrayList<>();
        for (int b = 0; b < now.men.size(); b++) if ((set >> b & 1) == 1) men.add(now.men.get(b));
        return men;
    }

    private int hereSet() {
        int set = 0;
        for (int b = 0; b < now.men.size(); b++) if (now.men.get(b).here) set |= 1 << b;
        return set;
    }

    public int send(int n) {
        if (!in(n, 0, 12)) return no(BEYOND);
        int here = hereSet();
        int best = 0;
        int most = fitting(menOf(here), now.rule);
        for (int set = 0; set <= here; set++) {
            if ((set & here) != set || Integer.bitCount(set) > n) continue;
            int fit = fitting(menOf(here - set), now.rule);
            if (fit > most || fit == most && Integer.bitCount(set) < Integer.bitCount(best)) {
                most = fit;
                best = set;
            }
        }
        return best;
    }

    public int best() {
        int a = fitting(here(), 0);
        int b = fitting(here(), 1);
        int c = fitting(here(), 2);
        return a >= b && a >= c ? 0 : b >= c ? 1 : 2;
    }

    public int easeFor() {
        Village was = now.twin();
        int ease = 0;
        now.ease = 0;
        while (fitting(here(), now.rule) < here().size()) now.ease = ++ease;
        now = was;
        return ease;
    }

    public int sways(int body, int measure) {
        if (!isMan(body) || !in(measure, 0, 2)) return no(BEYOND);
        if (!now.men.get(body).here) return no(STATE);
        Village was = now.twin();
        int least = Integer.MAX_VALUE;
        int most = Integer.MIN_VALUE;
        for (int v = 50; v <= 250; v++) {
            now.men.get(body).inches[measure] = v;
            least = Math.min(least, coatNow()[measure]);
            most = Math.max(most, coatNow()[measure]);
        }
        now = was;
        return most - least;
    }

    public int sized(int body, int measure) {
        if (!isMan(body) || !in(measure, 0, 2)) return no(BEYOND);
        if (!now.men.get(body).here) return no(STATE);
        Village was = now.twin();
        int best = 250;
        int most = -1;
        for (int v = 250; v >= 50; v--) {
            now.men.get(body).inches[measure] = v;
            int fit = fitting(here(), now.rule);
            if (fit >= most) {
                most = fit;
                best = v;
            }
        }
        now = was;
        return best;
    }

    private int bestBribe(Man man) {
        int was = man.bribe;
        int best = -20;
        int least = Integer.MAX_VALUE;
        for (int v = -20; v <= 20; v++) {
            man.bribe = v;
            int cost = costIn(coatNow(), man);
            if (cost < least || cost == least && Math.abs(v) < Math.abs(best)) {
                least = cost;
                best = v;
            }
        }
        man.bribe = was;
        return best;
    }

    public int bribe(int body) {
        if (!isMan(body)) return no(BEYOND);
        return now.men.get(body).bribes() ? bestBribe(now.men.get(body)) : no(STATE);
    }

    public int settled() {
        for (Man man : here()) {
            if (!man.bribes()) continue;
            int was = man.bribe;
            int cost = costIn(coatNow(), man);
            boolean better = false;
            for (man.bribe = -20; man.bribe <= 20; man.bribe++) better |= costIn(coatNow(), man) < cost;
            man.bribe = was;
            if (better) return 0;
        }
        return 1;
    }

    private void round() {
        for (Man man : now.men) if (man.bribes()) man.bribe = bestBribe(man);
    }

    public int rounds(int n) {
        if (!in(n, 1, 20)) return no(BEYOND);
        Village was = now.twin();
        for (int i = 0; i < n; i++) round();
        int unlike = 0;
        for (int b = 0; b < now.men.size(); b++) if (was.men.get(b).bribe != now.men.get(b).bribe) unlike++;
        return unlike;
    }

    public int settles() {
        Village was = now.twin();
        int answer = -1;
        for (int done = 0; done <= 50 && answer < 0; done++) {
            if (settled() == 1) answer = done;
            else round();
        }
        now = was;
        return answer < 0 ? no(NONE) : answer;
    }

    public int spring() {
        if (now.springs.size() == 20) return no(FULL);
        if (coatNow() == null) return no(NONE);
        now.springs.add(coatNow());
        return now.springs.size();
    }

    public int old(int spring, int measure) {
        if (!in(spring, 0, now.springs.size() - 1) || !in(measure, 0, 2)) return no(BEYOND);
        return now.springs.get(spring)[measure];
    }

    private List<Integer> setsAsIn(int spring) {
        List<Integer> sets = new ArrayList<>();
        for (int set = 1; set < 1 << now.men.size(); set++) {
            if (Arrays.equals(coatOf(menOf(set), now.rule), now.springs.get(spring))) sets.add(set);
        }
        return sets;
    }

    public int lived(int spring) {
        if (!in(spring, 0, now.springs.size() - 1)) return no(BEYOND);
        return setsAsIn(spring).size();
    }

    public int surely(int spring, int what) {
        if (!in(spring, 0, now.springs.size() - 1) || !in(what, 0, 1)) return no(BEYOND);
        List<Integer> sets = setsAsIn(spring);
        if (sets.isEmpty()) return no(NONE);
        int told = sets.get(0);
        for (int set : sets) told = what == 0 ? told & set : told | set;
        return told;
    }

    public int odds(int n) {
        if (!in(n, 1, 30)) return no(BEYOND);
        if (coatNow() == null) return no(NONE);
        int same = 0;
        for (int i = 0; i < n; i++) {
            List<int[]> rows = rows(here());
            for (int[] row : rows) {
                for (int m = 0; m < 3; m++) {
                    now.z = now.z * 1103515245 + 12345;
                    row[m] += (now.z >>> 8) % 3 - 1;
                }
            }
            boolean alike = true;
            for (int m = 0; m < 3; m++) alike &= cut(here(), rows, m, now.rule) == coatNow()[m];
            if (alike) same++;
        }
        return same;
    }

    public int seed(int v) {
        int was = now.z;
        now.z = v;
        return was;
    }

    public int feed(int bytes, int n) {
        if (!in(n, 1, 4)) return no(BEYOND);
        if (tape.size() + n > 120) return no(FULL);
        byte[] four = {(byte) (bytes >> 24), (byte) (bytes >> 16), (byte) (bytes >> 8), (byte) bytes};
        for (int i = 4 - n; i < 4; i++) tape.add(four[i] & 255);
        return tape.size();
    }

    public int wipe() {
        int had = tape.size();
        tape.clear();
        return had;
    }

    static final class Fault extends RuntimeException {
        private static final long serialVersionUID = 1L;
        final int place;

        Fault(int place) {
            this.place = place;
        }
    }

    private List<String> tokens;
    private List<Integer> places;
    private int at;

    private void tokenize() {
        StringBuilder all = new StringBuilder();
        for (int b : tape) all.append((char) b);
        tokens = new ArrayList<>();
        places = new ArrayList<>();
        Matcher matcher = Pattern.compile("[a-z]+|[0-9]+|[^ ]", Pattern.DOTALL).matcher(all);
        while (matcher.find()) {
            tokens.add(matcher.group());
            places.add(matcher.start());
        }
        tokens.add("");
        places.add(all.length());
        at = 0;
    }

    private String peek() {
        return tokens.get(at);
    }

    private int number(int from, int to) {
        if (!peek().matches("0*[0-9]{1,3}")) throw new Fault(places.get(at));
        String digits = peek().replaceFirst("^0*(?=.)", "");
        int v = Integer.parseInt(digits);
        if (!in(v, from, to)) throw new Fault(places.get(at));
        at++;
        return v;
    }

    private int oneOf(List<String> words) {
        int k = words.indexOf(peek());
        if (k < 0) throw new Fault(places.get(at));
        at++;
        return k;
    }

    private boolean perhaps(String word) {
        if (!peek().equals(word)) return false;
        at++;
        return true;
    }

    private void item() {
        if (perhaps("rule")) {
            now.rule = oneOf(RULES);
        } else if (perhaps("ease")) {
            now.ease = number(0, 999);
        } else if (perhaps("price")) {
            now.price = number(0, 99);
        } else {
            if (KINDS.contains(peek()) && now.men.size() == 12) throw new Fault(places.get(at));
            Man man = new Man();
            man.kind = oneOf(KINDS);
            for (int m = 0; m < 3; m++) man.inches[m] = number(50, 250);
            if (perhaps("bribe")) man.bribe = perhaps("-") ? -number(0, 20) : number(0, 20);
            if (perhaps("pins")) man.pins = number(0, 99);
            now.men.add(man);
        }
    }

    public int text() {
        tokenize();
        tape.clear();
        Village was = now.twin();
        try {
            int items = 1;
            item();
            while (!peek().isEmpty()) {
                oneOf(List.of(";"));
                item();
                items++;
            }
            return items;
        } catch (Fault fault) {
            now = was;
            return -1 - fault.place;
        }
    }

    public int hold(int spot, int body) {
        if (!in(spot, 0, 9) || body != -1 && !isMan(body)) return no(BEYOND);
        now.spots[spot] = body;
        return 1;
    }

    public int as(int spot, int kind) {
        if (!in(spot, 0, 9) || !in(kind, 0, 6)) return no(BEYOND);
        if (now.spots[spot] < 0) return no(MISSING);
        return now.men.get(now.spots[spot]).isA(kind) ? now.spots[spot] : no(KIND);
    }

    public int sheet(int s, int bits, int n) {
        if (!in(s, 0, 3) || !List.of(0, 8, 16, 32).contains(bits)) return no(BEYOND);
        if (n < 0) return no(SIZE);
        if (n > 40) return no(BEYOND);
        sheets[s] = bits == 0 ? null : new int[n];
        sheetBits[s] = bits;
        return bits == 0 ? 0 : n;
    }

    public int write(int s, int i, int v) {
        if (!in(s, 0, 3)) return no(BEYOND);
        if (sheets[s] == null) return no(MISSING);
        if (!in(i, 0, sheets[s].length - 1)) return no(BEYOND);
        sheets[s][i] = sheetBits[s] == 8 ? (byte) v : sheetBits[s] == 16 ? (short) v : v;
        return 1;
    }

    public int copy(int s, int from, int t, int to, int n) {
        if (!in(s, 0, 3) || !in(t, 0, 3)) return no(BEYOND);
        if (sheets[s] == null || sheets[t] == null) return no(MISSING);
        if (sheetBits[s] != sheetBits[t]) return no(KIND);
        if (from < 0 || to < 0 || n < 0) return no(BEYOND);
        if ((long) from + n > sheets[s].length || (long) to + n > sheets[t].length) return no(BEYOND);
        int[] were = sheets[s].clone();
        for (int i = 0; i < n; i++) sheets[t][to + i] = were[from + i];
        return n;
    }

    public int load(int s) {
        if (!in(s, 0, 3)) return no(BEYOND);
        if (sheets[s] == null) return no(MISSING);
        for (int b = 0;; b++) {
            if (b == now.men.size() || 3 * b + 2 >= sheets[s].length) return b;
            int[] three = {sheets[s][3 * b], sheets[s][3 * b + 1], sheets[s][3 * b + 2]};
            for (int v : three) if (!in(v, 50, 250)) return b;
            now.men.get(b).inches = three;
        }
    }

    public int judge(int s) {
        if (!in(s, 0, 3)) return no(BEYOND);
        if (sheets[s] == null) return no(MISSING);
        if (coatNow() == null) return no(NONE);
        List<Integer> costs = new ArrayList<>();
        for (Man man : now.men) costs.add(costIn(coatNow(), man));
        List<Integer> told = new ArrayList<>();
        for (int v : sheets[s]) told.add(v);
        if (told.equals(costs)) return 0;
        int right = 0;
        while (right < told.size() && right < costs.size() && told.get(right).equals(costs.get(right))) right++;
        return 1 + right;
    }

    public int image() {
        image = now.twin();
        return 1;
    }

    public int undo() {
        if (image == null) return no(NONE);
        now = image.twin();
        return now.men.size();
    }

    public int tear() {
        int was = image == null ? 0 : 1;
        image = null;
        return was;
    }

    public int count(int what) {
        if (!in(what, 0, 6)) return no(BEYOND);
        int held = 0;
        for (int spot : now.spots) if (spot >= 0) held++;
        int fit = here().isEmpty() ? 0 : fitting(here(), now.rule);
        return new int[] {now.men.size(), here().size(), fit, now.springs.size(), tape.size(), now.z, held}[what];
    }

    public int status(int which) {
        if (!in(which, -1, 6)) return no(BEYOND);
        int all = 0;
        for (int f : found) all += f;
        return which < 0 ? all : found[which];
    }
}
