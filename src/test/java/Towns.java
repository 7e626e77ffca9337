import java.util.ArrayList;
import java.util.List;

/** Towns for the tests, and all that can be asked of one, part by part (to ask spends the town). */
final class Towns {
    static final int BEYOND = -1000001;
    static final int FULL = -1000002;
    static final int KIND = -1000003;
    static final int NONE = -1000004;
    static final int STATE = -1000005;
    static final int MISSING = -1000006;
    static final int SIZE = -1000007;

    static final int PARTS = 4;

    private static int wrong = 0;
    private static int checked = 0;

    interface Call {
        int on(MeanCoats x);
    }

    interface Maker {
        MeanCoats make();
    }

    private Towns() {
    }

    static void due(String what, long got, long want) {
        checked++;
        if (got != want) {
            wrong++;
            System.out.println(what + " answered " + got + ", due is " + want);
        }
    }

    static void dueAll(String what, List<Integer> got, List<Integer> want) {
        due(what + ": how many", got.size(), want.size());
        for (int i = 0; i < got.size() && i < want.size(); i++) due(what + " [" + i + "]", got.get(i), want.get(i));
    }

    static void end() {
        System.out.println(checked + " answers, " + wrong + " not as due");
        if (wrong != 0) System.exit(1);
    }

    // ---- towns

    static int man(MeanCoats x, int kind, int longs, int wide, int arm) {
        int body = x.body(kind);
        x.change(body, 1, longs);
        x.change(body, 2, wide);
        x.change(body, 3, arm);
        return body;
    }

    static void feedAll(MeanCoats x, String text) {
        for (int i = 0; i < text.length(); i++) x.feed(text.charAt(i), 1);
    }

    /** Three bodies, one of them away, and something of all that there can be; sheet 3 is missing. */
    static MeanCoats small() {
        MeanCoats x = new MeanCoats();
        man(x, 2, 90, 95, 100);
        x.image();
        x.change(0, 4, -7);
        x.change(0, 5, 4);
        man(x, 4, 101, 112, 123);
        man(x, 6, 130, 70, 60);
        x.here(2, false);
        x.rule(1);
        x.ease(30);
        x.price(7);
        x.seed(-55);
        x.spring();
        x.hold(3, 1);
        sheets(x, 6);
        feedAll(x, "ease 77;pric");
        return x;
    }

    /** The same, but nobody is here. */
    static MeanCoats away() {
        MeanCoats x = small();
        x.here(0, false);
        x.here(1, false);
        return x;
    }

    /** As many of everything as there can be. */
    static MeanCoats full() {
        MeanCoats x = new MeanCoats();
        for (int b = 0; b < 12; b++) {
            man(x, b % 7, 85 + 3 * b, 120 - 2 * b, 90 + b);
            if (b % 7 == 2 || b % 7 == 6) x.change(b, 4, b - 5);
        }
        x.image();
        for (int i = 0; i < 20; i++) {
            x.change(0, 1, 85 + 5 * i);
            x.spring();
        }
        for (int spot = 0; spot < 10; spot++) x.hold(spot, spot + 2);
        sheets(x, 40);
        x.sheet(3, 32, 40);
        for (int i = 0; i < 29; i++) x.feed(0x20202020, 4);
        x.feed(0x65617365, 4);
        return x;
    }

    /** Of 8, 16 and 32 bits: 60, 61 and so on, each of as many numbers as are told. */
    private static void sheets(MeanCoats x, int n) {
        for (int s = 0; s < 3; s++) {
            x.sheet(s, 8 << s, n);
            for (int i = 0; i < n; i++) x.write(s, i, 60 + s + i);
        }
    }

    // ---- what can be asked

    static List<Integer> statuses(MeanCoats x) {
        List<Integer> told = new ArrayList<>();
        for (int which = -1; which <= 6; which++) told.add(x.status(which));
        return told;
    }

    static List<Integer> bodies(MeanCoats x) {
        List<Integer> told = new ArrayList<>();
        int bodies = x.count(0);
        for (int b = 0; b < bodies; b++) for (int what = 0; what <= 7; what++) told.add(x.bodyOf(b, what));
        return told;
    }

    /** Part 0: the town. 1: its sheets. 2: the tape. 3: the image. */
    static List<Integer> tell(MeanCoats x, int part) {
        switch (part) {
            case 0:
                return town(x);
            case 1:
                return sheetsOf(x);
            case 2:
                return tapeOf(x);
            default:
                return imageOf(x);
        }
    }

    private static List<Integer> town(MeanCoats x) {
        List<Integer> told = bodies(x);
        for (int what = 0; what <= 6; what++) told.add(x.count(what));
        int springs = x.count(3);
        for (int i = 0; i < springs; i++) for (int m = 0; m <= 2; m++) told.add(x.old(i, m));
        for (int spot = 0; spot <= 9; spot++) told.add(x.as(spot, 0));
        told.add(x.rule(0));
        told.add(x.ease(0));
        told.add(x.price(0));
        return told;
    }

    private static List<Integer> sheetsOf(MeanCoats x) {
        List<Integer> told = new ArrayList<>();
        while (x.count(0) < 12) x.body(0);
        for (int s = 0; s <= 3; s++) {
            told.add(x.load(s));
            for (int b = 0; b < 12; b++) for (int what = 1; what <= 3; what++) told.add(x.bodyOf(b, what));
            for (int i = 36; i <= 40; i++) told.add(x.write(s, i, 0));
        }
        for (int s = 0; s <= 3; s++) {
            // The lowest 8 bits of the one and the lowest 16 of the other tell 100: so how many bits there are.
            told.add(x.write(s, 1, 256 + 100));
            told.add(x.load(s));
            told.add(x.write(s, 1, 65536 + 100));
            told.add(x.load(s));
            for (int i = 5; i <= 7; i++) told.add(x.write(s, i, 0));
        }
        return told;
    }

    private static List<Integer> tapeOf(MeanCoats x) {
        List<Integer> told = new ArrayList<>();
        told.add(x.count(4));
        while (x.count(4) > 0 && x.count(4) < 116) x.feed(0x20202020, 4);
        told.add(x.text());
        told.add(x.count(4));
        told.add(x.ease(0));
        return told;
    }

    private static List<Integer> imageOf(MeanCoats x) {
        List<Integer> told = new ArrayList<>();
        told.add(x.undo());
        told.addAll(town(x));
        told.add(x.tear());
        return told;
    }
}
