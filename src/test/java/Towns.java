import java.util.ArrayList;
import java.util.LinkedHashMap;
import java.util.List;
import java.util.Map;
import java.util.TreeSet;

/** Towns for the tests, and all that can be asked of one, part by part (to ask spends the town). */
final class Towns {
    static final int BEYOND = -1000001;
    static final int FULL = -1000002;
    static final int KIND = -1000003;
    static final int NONE = -1000004;
    static final int STATE = -1000005;
    static final int MISSING = -1000006;
    static final int SIZE = -1000007;

    static final int PARTS = 4;

    private static int wrong = 0;
    private static int checked = 0;

    interface Call {
        int on(MeanCoats x);
    }

    interface Maker {
        MeanCoats make();
    }

    private Towns() {
    }

    static void due(String what, long got, long want) {
        checked++;
        if (got != want) {
            wrong++;
            System.out.println(what + " answered " + got + ", due is " + want);
        }
    }

    static void dueAll(String what, List<Integer> got, List<Integer> want) {
        due(what + ": how many", got.size(), want.size());
        for (int i = 0; i < got.size() && i < want.size(); i++) due(what + " [" + i + "]", got.get(i), want.get(i));
    }

    static void dueAll(String what, Map<String, Integer> got, Map<String, Integer> want) {
        checked += want.size();
        if (got.equals(want)) return;
        TreeSet<String> names = new TreeSet<>(got.keySet());
        names.addAll(want.keySet());
        for (String name : names) {
            if (want.containsKey(name) && got.containsKey(name) && want.get(name).equals(got.get(name))) continue;
            wrong++;
            System.out.println(what + ": " + name + " is " + got.get(name) + ", due is " + want.get(name));
        }
    }

    static void end() {
        System.out.println(checked + " answers, " + wrong + " not as due");
        if (wrong != 0) System.exit(1);
    }

    // ---- towns

    static int man(MeanCoats x, int kind, int longs, int wide, int arm) {
        int body = x.body(kind);
        x.change(body, 1, longs);
        x.change(body, 2, wide);
        x.change(body, 3, arm);
        return body;
    }

    static void feedAll(MeanCoats x, String text) {
        for (int i = 0; i < text.length(); i++) x.feed(text.charAt(i), 1);
    }

    /** Three bodies, one of them away, and something of all that there can be; sheet 3 is missing. */
    static MeanCoats small() {
        MeanCoats x = new MeanCoats();
        man(x, 2, 90, 95, 100);
        x.image();
        x.change(0, 4, -7);
        x.change(0, 5, 4);
        man(x, 4, 101, 112, 123);
        man(x, 6, 130, 70, 60);
        x.here(2, false);
        x.rule(1);
        x.ease(30);
        x.price(7);
        x.seed(-55);
        x.spring();
        x.hold(3, 1);
        sheets(x, 6);
        feedAll(x, "ease 77;pric");
        return x;
    }

    /** The same, but nobody is here. */
    static MeanCoats away() {
        MeanCoats x = small();
        x.here(0, false);
        x.here(1, false);
        return x;
    }

    /** As many of everything as there can be. */
    static MeanCoats full() {
        MeanCoats x = new MeanCoats();
        for (int b = 0; b < 12; b++) {
            man(x, b % 7, 85 + 3 * b, 120 - 2 * b, 90 + b);
            if (b % 7 == 2 || b % 7 == 6) x.change(b, 4, b - 5);
        }
        x.image();
        for (int i = 0; i < 20; i++) {
            x.change(0, 1, 85 + 5 * i);
            x.spring();
        }
        for (int spot = 0; spot < 10; spot++) x.hold(spot, spot + 2);
        sheets(x, 40);
        x.sheet(3, 32, 40);
        for (int i = 0; i < 29; i++) x.feed(0x20202020, 4);
        x.feed(0x65617365, 4);
        return x;
    }

    /** Of 8, 16 and 32 bits: 60, 61 and so on, each of as many numbers as are told. */
    private static void sheets(MeanCoats x, int n) {
        for (int s = 0; s < 3; s++) {
            x.sheet(s, 8 << s, n);
            for (int i = 0; i < n; i++) x.write(s, i, 60 + s + i);
        }
    }

    // ---- what can be asked

    static List<Integer> statuses(MeanCoats x) {
        List<Integer> told = new ArrayList<>();
        for (int which = -1; which <= 6; which++) told.add(x.status(which));
        return told;
    }

    static List<Integer> bodies(MeanCoats x) {
        Map<String, Integer> told = new LinkedHashMap<>();
        tellBodies(x, "", told);
        return new ArrayList<>(told.values());
    }

    /** Part 0: the town. 1: its sheets. 2: the tape. 3: the image. Each answer by the name of what it tells. */
    static Map<String, Integer> tell(MeanCoats x, int part) {
        Map<String, Integer> told = new LinkedHashMap<>();
        switch (part) {
            case 0:
                tellTown(x, "", told);
                break;
            case 1:
                tellSheets(x, told);
                break;
            case 2:
                tellTape(x, told);
                break;
            default:
                tellImage(x, told);
                break;
        }
        return told;
    }

    /** All parts: each of a town made and, if there is something to do, changed anew. */
    static Map<String, Integer> tellAll(Maker maker, Call call) {
        Map<String, Integer> told = new LinkedHashMap<>();
        for (int part = 0; part < PARTS; part++) {
            MeanCoats x = maker.make();
            if (call != null) call.on(x);
            told.putAll(tell(x, part));
        }
        return told;
    }

    private static void tellBodies(MeanCoats x, String ahead, Map<String, Integer> told) {
        int bodies = x.count(0);
        for (int b = 0; b < bodies; b++) {
            for (int what = 0; what <= 7; what++) told.put(ahead + "body " + b + " " + what, x.bodyOf(b, what));
        }
    }

    private static void tellTown(MeanCoats x, String ahead, Map<String, Integer> told) {
        tellBodies(x, ahead, told);
        // How many FIT is left out: nobody keeps it.
        for (int what : new int[] {0, 1, 3, 5, 6}) told.put(ahead + "count " + what, x.count(what));
        int springs = x.count(3);
        for (int i = 0; i < springs; i++) for (int m = 0; m <= 2; m++) told.put(ahead + "old " + i + " " + m, x.old(i, m));
        for (int spot = 0; spot <= 9; spot++) told.put(ahead + "spot " + spot, x.as(spot, 0));
        told.put(ahead + "rule", x.rule(0));
        told.put(ahead + "ease", x.ease(0));
        told.put(ahead + "price", x.price(0));
    }

    private static void tellSheets(MeanCoats x, Map<String, Integer> told) {
        if (x.count(0) == 0) x.body(0);
        for (int s = 0; s <= 3; s++) {
            String sheet = "sheet " + s;
            boolean isMissing = x.load(s) == MISSING;
            int n = isMissing ? -1 : lengthOf(x, s);
            told.put(sheet + " length", n);
            for (int i = 0; i < n; i++) told.put(sheet + " number " + i, numberOf(x, s, i));
            told.put(sheet + " bits", n < 3 ? -1 : bitsOf(x, s));
        }
    }

    private static int lengthOf(MeanCoats x, int s) {
        int n = 0;
        while (n < 100 && x.copy(s, 0, s, 0, n + 1) == n + 1) n++;
        return n;
    }

    /** -1 where it isn't 50 to 250, or can't be told. Numbers 0 to 2 must be asked for first: these make room then. */
    private static int numberOf(MeanCoats x, int s, int i) {
        if (i >= 3) {
            x.copy(s, i, s, 0, 1);
            x.write(s, 1, 100);
            x.write(s, 2, 100);
        }
        return x.load(s) > 0 ? x.bodyOf(0, i < 3 ? 1 + i : 1) : -1;
    }

    /** The lowest 8 bits of the one and the lowest 16 of the other tell 100. */
    private static int bitsOf(MeanCoats x, int s) {
        x.write(s, 1, 100);
        x.write(s, 2, 100);
        x.write(s, 0, 256 + 100);
        if (x.load(s) > 0) return 8;
        x.write(s, 0, 65536 + 100);
        return x.load(s) > 0 ? 16 : 32;
    }

    private static void tellTape(MeanCoats x, Map<String, Integer> told) {
        told.put("tape bytes", x.count(4));
        feedAll(x, "e 5");
        told.put("tape text", x.text());
        told.put("tape left", x.count(4));
        told.put("tape ease", x.ease(0));
        told.put("tape price", x.price(0));
    }

    private static void tellImage(MeanCoats x, Map<String, Integer> told) {
        told.put("kept", x.undo());
        if (told.get("kept") >= 0) tellTown(x, "kept ", told);
        told.put("kept torn", x.tear());
    }
}
