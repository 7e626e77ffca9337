import java.lang.reflect.InvocationTargetException;
import java.lang.reflect.Method;
import java.util.ArrayList;
import java.util.Arrays;
import java.util.List;

/** Runs of calls that are drawn, each answer held against PlainCoats. The same runs each time. */
public final class RandomRunsTest {
    private static long seed = 1;
    private static int wrong = 0;
    private static int calls = 0;

    /** What each argument is drawn from: b a body, v a value to change to, n a number, a range, is: yes or no. */
    private static final String[][] ACTS = {
        {"body", "0:6"}, {"bodyOf", "b", "0:10"}, {"change", "b", "0:5", "v"}, {"here", "b", "is"},
        {"rule", "0:2"}, {"ease", "0:999"}, {"price", "0:99"}, {"famine", "1:50"},
        {"coat", "0:2"}, {"mean", "0:2", "0:1"}, {"cost", "b"}, {"fits"}, {"costs"}, {"fines"}, {"pins", "b"},
        {"worst"}, {"marry", "b", "b"}, {"bride", "b"},
        {"send", "0:12"}, {"best"}, {"easeFor"}, {"sways", "b", "0:2"}, {"sized", "b", "0:2"},
        {"bribe", "b"}, {"settled"}, {"rounds", "1:20"}, {"settles"},
        {"spring"}, {"old", "s", "0:2"}, {"lived", "s"}, {"surely", "s", "0:1"}, {"odds", "1:30"}, {"seed", "any"},
        {"feed", "any", "1:4"}, {"wipe"}, {"text"},
        {"hold", "0:9", "b"}, {"as", "0:9", "0:6"}, {"sheet", "0:3", "bits", "0:40"}, {"write", "0:3", "0:12", "n"},
        {"copy", "0:3", "0:12", "0:3", "0:12", "0:12"}, {"load", "0:3"}, {"judge", "0:3"},
        {"image"}, {"undo"}, {"tear"}, {"count", "0:6"}, {"status", "-1:6"},
    };
    private static final List<String> SLOW = List.of("send", "lived", "surely", "settles", "rounds", "sized", "easeFor");
    private static final List<String> RARE = List.of("wipe", "text", "tear", "undo", "body", "ease", "famine");

    private static int draw(int below) {
        seed = seed * 6364136223846793005L + 1442695040888963407L;
        return (int) ((seed >>> 33) % below);
    }

    private static int drawFrom(int least, int most) {
        int turn = draw(24);
        if (turn == 0) return least - 1;
        if (turn == 1) return most + 1;
        if (turn == 2) return draw(2) == 0 ? least : most;
        if (turn == 3 && draw(4) == 0) return draw(2) == 0 ? Integer.MIN_VALUE : Integer.MAX_VALUE;
        return least + draw(most - least + 1);
    }

    private static int drawValue(int what) {
        if (what == 0) return drawFrom(0, 6);
        if (what == 4) return drawFrom(-20, 20);
        if (what == 5) return draw(3) == 0 ? drawFrom(0, 99) : draw(15);
        return draw(3) > 0 ? 85 + draw(30) : drawFrom(50, 250);
    }

    private static Object drawArgument(String from, PlainCoats plain, Object[] before) {
        switch (from) {
            case "b":
                return drawFrom(draw(20) == 0 ? -1 : 0, Math.max(0, plain.now.men.size() - 1));
            case "s":
                return drawFrom(0, Math.max(0, plain.now.springs.size() - 1));
            case "v":
                return drawValue(before.length > 1 && before[1] instanceof Integer what ? what : 1);
            case "n":
                return draw(6) == 0 ? draw(1 << 17) - (1 << 16) : drawValue(1);
            case "is":
                return draw(3) > 0;
            case "any":
                return draw(2) == 0 ? draw(1000) : draw(1 << 16) << 16 | draw(1 << 16);
            case "bits":
                return new int[] {0, 8, 16, 16, 32, 32, 7, 64}[draw(8)];
            default:
                String[] ends = from.split(":");
                return drawFrom(Integer.parseInt(ends[0]), Integer.parseInt(ends[1]));
        }
    }

    private static Object call(Object on, String name, Object[] arguments) {
        for (Method method : on.getClass().getMethods()) {
            if (method.getName().equals(name) && method.getDeclaringClass() == on.getClass()) {
                try {
                    return method.invoke(on, arguments);
                } catch (IllegalAccessException | InvocationTargetException e) {
                    return e.getCause() == null ? e : e.getCause();
                }
            }
        }
        return "no such method";
    }

    private static boolean alike(int run, MeanCoats coats, PlainCoats plain, String name, Object... arguments) {
        calls++;
        Object want = call(plain, name, arguments);
        Object got = call(coats, name, arguments);
        if (want.equals(got)) return true;
        wrong++;
        System.out.println("run " + run + ": " + name + Arrays.toString(arguments) + " answered " + got + ", due is " + want);
        return false;
    }

    private static String drawWord() {
        String[] words = {"body", "stretched", "briber", "twin", "giant", "thin", "sly", "rule", "mean", "middle",
            "most", "ease", "price", "bribe", "pins", ";", "-", "x", "bod", "A", "\t", "", "7", "1000", "\u00e9", "{", "`", "/", ":"};
        return words[draw(words.length)];
    }

    private static void addBody(List<String> words) {
        words.add(PlainCoats.KINDS.get(draw(7)));
        for (int m = 0; m < 3; m++) words.add((draw(9) == 0 ? "0" : "") + (draw(20) == 0 ? drawFrom(50, 250) : 80 + draw(40)));
        if (draw(2) == 0) {
            words.add("bribe");
            if (draw(2) == 0) words.add("-");
            words.add("" + Math.max(0, draw(8) == 0 ? drawFrom(0, 20) : draw(21)));
        }
        if (draw(2) == 0) {
            words.add("pins");
            words.add("" + (draw(8) == 0 ? Math.max(0, drawFrom(0, 99)) : draw(12)));
        }
    }

    private static String drawText() {
        List<String> words = new ArrayList<>();
        int items = 1 + draw(4);
        for (int i = 0; i < items; i++) {
            if (i > 0) words.add(";");
            int turn = draw(6);
            if (turn == 0) words.addAll(List.of("rule", PlainCoats.RULES.get(draw(3))));
            else if (turn == 1) words.addAll(List.of("ease", "" + draw(draw(9) == 0 ? 1010 : 60)));
            else if (turn == 2) words.addAll(List.of("price", "" + draw(draw(9) == 0 ? 110 : 99)));
            else addBody(words);
        }
        if (draw(3) == 0) words.set(draw(words.size()), drawWord());
        if (draw(8) == 0) words.remove(draw(words.size()));
        if (draw(8) == 0) words.add(drawWord());
        StringBuilder text = new StringBuilder();
        for (String word : words) text.append(word).append(draw(7) == 0 ? draw(2) == 0 ? "" : "  " : " ");
        if (draw(12) == 0) text.setLength(draw(text.length()));
        return text.toString();
    }

    private static boolean feedAndRead(int run, MeanCoats coats, PlainCoats plain, String text) {
        boolean alike = draw(12) == 0 || alike(run, coats, plain, "wipe");
        for (int i = 0; i < text.length() && alike; ) {
            int n = Math.min(1 + draw(4), text.length() - i);
            int bytes = draw(2) == 0 ? 0 : 0x41424344;
            for (int k = 0; k < n; k++) bytes = bytes << 8 | text.charAt(i + k) & 255;
            alike = alike(run, coats, plain, "feed", bytes, n);
            i += n;
        }
        return alike && alike(run, coats, plain, "text");
    }

    private static boolean tellAll(int run, MeanCoats coats, PlainCoats plain) {
        boolean alike = true;
        for (int b = 0; b < plain.now.men.size(); b++) {
            for (int what = 0; what <= 10; what++) alike &= alike(run, coats, plain, "bodyOf", b, what);
        }
        for (int what = 0; what <= 6; what++) alike &= alike(run, coats, plain, "count", what);
        for (int which = -1; which <= 6; which++) alike &= alike(run, coats, plain, "status", which);
        return alike;
    }

    private static void runOnce(int run, int bodies, int length, int slowOf) {
        MeanCoats coats = new MeanCoats();
        PlainCoats plain = new PlainCoats();
        boolean alike = true;
        for (int b = 0; b < bodies && alike; b++) {
            alike = alike(run, coats, plain, "body", draw(3) == 0 ? 2 + 4 * draw(2) : draw(7));
            for (int what = 1; what <= 5; what++) {
                if (draw(3) > 0) alike &= alike(run, coats, plain, "change", b, what, drawValue(what));
            }
        }
        if (draw(2) == 0) alike(run, coats, plain, "rule", draw(3));
        if (draw(2) == 0) alike(run, coats, plain, "ease", draw(40));
        for (int i = 0; i < length && alike; i++) {
            if (draw(25) == 0) {
                alike = feedAndRead(run, coats, plain, drawText());
                continue;
            }
            String[] act = ACTS[draw(ACTS.length)];
            if (SLOW.contains(act[0]) && draw(slowOf) > 0 || RARE.contains(act[0]) && draw(4) > 0) continue;
            Object[] arguments = new Object[act.length - 1];
            for (int k = 1; k < act.length; k++) arguments[k - 1] = drawArgument(act[k], plain, arguments);
            alike = alike(run, coats, plain, act[0], arguments);
        }
        tellAll(run, coats, plain);
    }

    public static void main(String[] args) {
        int many = Integer.getInteger("many", 1);
        seed = many;
        for (int run = 0; run < 600 * many && wrong < 10; run++) runOnce(run, draw(6), 250, 2);
        for (int run = 0; run < 20 * many && wrong < 10; run++) runOnce(10000 + run, 7 + draw(6), 120, 6);
        System.out.println(calls + " calls, " + wrong + " answers not as due");
        if (wrong != 0) System.exit(1);
    }
}
