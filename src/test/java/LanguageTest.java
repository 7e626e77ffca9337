import java.io.IOException;
import java.lang.management.ManagementFactory;
import java.lang.reflect.Constructor;
import java.lang.reflect.Field;
import java.lang.reflect.InvocationTargetException;
import java.lang.reflect.Method;
import java.lang.reflect.Modifier;
import java.nio.file.Files;
import java.nio.file.Path;
import java.util.ArrayList;
import java.util.Arrays;
import java.util.List;
import java.util.Set;
import java.util.TreeSet;
import java.util.regex.Matcher;
import java.util.regex.Pattern;

/** The rules of LANGUAGE.md that a machine can look for; the face; no call throws, no call makes an object. */
public final class LanguageTest {
    private static final String[] FACE = {
        "body(int)", "bodyOf(int,int)", "change(int,int,int)", "here(int,boolean)", "rule(int)", "ease(int)",
        "price(int)", "famine(int)", "coat(int)", "mean(int,int)", "cost(int)", "fits()", "costs()", "fines()",
        "pins(int)", "worst()", "marry(int,int)", "bride(int)", "send(int)", "best()", "easeFor()",
        "sways(int,int)", "sized(int,int)", "bribe(int)", "settled()", "rounds(int)", "settles()", "spring()",
        "old(int,int)", "lived(int)", "surely(int,int)", "odds(int)", "seed(int)", "feed(int,int)", "wipe()",
        "text()", "hold(int,int)", "as(int,int)", "sheet(int,int,int)", "write(int,int,int)",
        "copy(int,int,int,int,int)", "load(int)", "judge(int)", "image()", "undo()", "tear()", "count(int)",
        "status(int)",
    };
    private static final List<String> CONSTANTS = List.of("int", "long", "boolean", "char", "String", "int[]", "long[]",
        "char[]", "byte[]");
    private static int wrong = 0;

    private static void hold(boolean holds, String what) {
        if (!holds) {
            wrong++;
            System.out.println(what);
        }
    }

    private static String told(Method method) {
        List<String> types = new ArrayList<>();
        for (Class<?> type : method.getParameterTypes()) types.add(type.getName());
        return method.getName() + "(" + String.join(",", types) + ")";
    }

    private static void checkFace() {
        Set<String> face = new TreeSet<>();
        for (Method method : MeanCoats.class.getDeclaredMethods()) {
            if (Modifier.isPrivate(method.getModifiers())) continue;
            face.add(told(method));
            hold(Modifier.isPublic(method.getModifiers()), "not private, not public: " + method);
            hold(method.getReturnType() == int.class && !Modifier.isStatic(method.getModifiers()), "not as told: " + method);
        }
        hold(face.equals(new TreeSet<>(Arrays.asList(FACE))), "another face: " + face);
        for (Field field : MeanCoats.class.getDeclaredFields()) {
            hold(Modifier.isPrivate(field.getModifiers()), "not private: " + field);
        }
        Constructor<?>[] constructors = MeanCoats.class.getDeclaredConstructors();
        hold(constructors.length == 1 && constructors[0].getParameterCount() == 0
            && Modifier.isPublic(constructors[0].getModifiers()), "another constructor");
        int modifiers = MeanCoats.class.getModifiers();
        hold(Modifier.isPublic(modifiers) && Modifier.isFinal(modifiers), "the class isn't public and final");
    }

    private static void checkClass(Class<?> some, Set<String> publicNames) {
        int fields = 0;
        for (Field field : some.getDeclaredFields()) {
            if (Modifier.isStatic(field.getModifiers())) {
                hold(Modifier.isFinal(field.getModifiers()), "static, not final: " + field);
                hold(CONSTANTS.contains(field.getType().getSimpleName()), "static, no constant: " + field);
            } else {
                fields++;
            }
        }
        hold(fields <= 20, "too many fields: " + some);
        for (Method method : some.getDeclaredMethods()) {
            hold(method.getParameterCount() <= 7, "too many parameters: " + method);
            boolean isFace = some == MeanCoats.class && Modifier.isPublic(method.getModifiers());
            hold(isFace || !publicNames.contains(method.getName()), "bears the name of a public one: " + method);
        }
    }

    private static void checkClasses() {
        Set<String> publicNames = new TreeSet<>();
        for (String one : FACE) publicNames.add(one.substring(0, one.indexOf('(')));
        checkClass(MeanCoats.class, publicNames);
        Class<?>[] inside = MeanCoats.class.getDeclaredClasses();
        hold(inside.length <= 11, "too many classes");
        for (Class<?> some : inside) {
            hold(Modifier.isStatic(some.getModifiers()), "not static: " + some);
            hold(!Modifier.isPublic(some.getModifiers()), "public: " + some);
            checkClass(some, publicNames);
        }
    }

    private static void checkSource(Path source) throws IOException {
        String text = Files.readString(source);
        for (int i = 0; i < text.length(); i++) hold(text.charAt(i) < 127, "a sign beyond 126 at " + i);
        String code = text.replaceAll("(?s)/\\*.*?\\*/", "").replaceAll("//[^\n]*", "").replaceAll("\"[^\"\n]*\"", "\"\"");
        String[] ruledOut = {"\\bthrow\\b", "\\bthrows\\b", "\\btry\\b", "\\bcatch\\b", "\\bfinally\\b", "\\bsynchronized\\b",
            "\\bassert\\b", "->", "::", "\\bimport\\b", "\\bpackage\\b", "\\bprotected\\b", "static\\s*\\{", "Exact\\b",
            "\\bequals\\b", "\\bhashCode\\b", "\\btoString\\b", "\\bdouble\\b", "\\bfloat\\b", "\\bRandom\\b", "\\bThread\\b",
            "\\bcurrentTimeMillis\\b", "\\bnanoTime\\b", "\\bgetenv\\b", "\\bprintln\\b", "\\bvolatile\\b", "\\bnative\\b"};
        for (String one : ruledOut) hold(!Pattern.compile(one).matcher(code).find(), "ruled out: " + one);
        Matcher library = Pattern.compile("\\b(System|Math|Integer|Long|Arrays|String)\\.(\\w+)").matcher(code);
        Set<String> allowed = Set.of("System.arraycopy", "Math.max", "Math.min", "Math.abs", "Integer.bitCount",
            "Arrays.fill", "Arrays.copyOf");
        while (library.find()) hold(allowed.contains(library.group()), "not from the list: " + library.group());
        checkLengths(text.split("\n", -1));
    }

    private static void checkLengths(String[] lines) {
        Pattern head = Pattern.compile("( {4}| {8})(private|public)[^=;]*\\(.*\\) \\{");
        for (int i = 0; i < lines.length; i++) {
            Matcher matcher = head.matcher(lines[i]);
            if (!matcher.matches()) continue;
            int end = i;
            while (end < lines.length && !lines[end].equals(matcher.group(1) + "}")) end++;
            hold(end - i < 60, "a long method: " + lines[i].trim());
            hold(lines[i].length() <= 120, "a long line: " + (i + 1));
        }
    }

    private static MeanCoats crowd(int kinds) {
        MeanCoats x = new MeanCoats();
        for (int b = 0; b < 12; b++) {
            x.body(kinds == 0 ? b % 7 : 2 + 4 * (b % 2));
            x.change(b, 1, 90 + 7 * b % 30);
            x.change(b, 2, 90 + 11 * b % 30);
            x.change(b, 3, 90 + 13 * b % 30);
        }
        x.spring();
        x.hold(0, 3);
        for (int s = 0; s < 3; s++) {
            x.sheet(s, 8 << s / 2, 10);
            for (int i = 0; i < 10; i++) x.write(s, i, 55 + i);
        }
        return x;
    }

    private static Object value(int v, Class<?> type) {
        return type == boolean.class ? (Object) (v % 2 == 0) : (Object) v;
    }

    private static void callWithAll(MeanCoats x, Method method, Object[] arguments, int next, int[] values) {
        if (next < arguments.length) {
            for (int v : values) {
                arguments[next] = value(v, method.getParameterTypes()[next]);
                callWithAll(x, method, arguments, next + 1, values);
            }
            return;
        }
        try {
            method.invoke(x, arguments);
        } catch (IllegalAccessException | InvocationTargetException e) {
            hold(false, method.getName() + Arrays.toString(arguments) + ": " + e.getCause());
        }
    }

    private static void checkNothingThrows() {
        int[] many = {Integer.MIN_VALUE, -21, -2, -1, 0, 1, 2, 3, 4, 5, 7, 8, 9, 10, 12, 13, 16, 20, 32, 40, 41, 50, 251,
            Integer.MAX_VALUE};
        int[] few = {Integer.MIN_VALUE, -1, 0, 1, 2, 3, 4, 9, 10, 40, Integer.MAX_VALUE - 1, Integer.MAX_VALUE};
        for (int state = 0; state < 3; state++) {
            for (Method method : MeanCoats.class.getDeclaredMethods()) {
                if (!Modifier.isPublic(method.getModifiers())) continue;
                MeanCoats x = state == 0 ? new MeanCoats() : crowd(state - 1);
                callWithAll(x, method, new Object[method.getParameterCount()], 0, method.getParameterCount() > 3 ? few : many);
            }
        }
    }

    private static int callEach(MeanCoats x, int i) {
        int sum = x.rule(i % 3) + x.ease(i % 30) + x.price(i % 9) + x.famine(1) + x.change(i % 12, 1, 90 + i % 20);
        sum += x.body(0) + x.bodyOf(i % 12, i % 11) + x.here(i % 12, i % 5 > 0) + x.coat(i % 3) + x.mean(i % 3, i % 2);
        sum += x.cost(i % 12) + x.fits() + x.costs() + x.fines() + x.pins(i % 12) + x.worst() + x.marry(1, 2) + x.bride(3);
        sum += x.send(3) + x.best() + x.easeFor() + x.sways(i % 12, 1) + x.sized(i % 12, 1) + x.bribe(i % 12);
        sum += x.settled() + x.rounds(1) + x.settles() + x.spring() + x.old(0, 1) + x.lived(0) + x.surely(0, 1) + x.odds(9);
        sum += x.seed(i) + x.feed(0x65617365, 4) + x.feed(0x20312020, 4) + x.text() + x.feed(0x626f6479, 4) + x.text() + x.wipe();
        sum += x.hold(i % 10, 1) + x.as(i % 10, 2) + x.sheet(3, 8 << i % 3, 9) + x.write(3, 1, i) + x.copy(1, 0, 0, 1, 3);
        sum += x.load(0) + x.judge(1) + x.image() + x.undo() + x.tear() + x.count(i % 7) + x.status(i % 7);
        return sum;
    }

    private static void checkNothingIsMade() {
        com.sun.management.ThreadMXBean bean = (com.sun.management.ThreadMXBean) ManagementFactory.getThreadMXBean();
        MeanCoats x = crowd(1);
        long id = Thread.currentThread().getId();
        int sum = callEach(x, 0);
        bean.getThreadAllocatedBytes(id);
        long none = bean.getThreadAllocatedBytes(id);
        none = bean.getThreadAllocatedBytes(id) - none;
        long before = bean.getThreadAllocatedBytes(id);
        for (int i = 1; i < 20; i++) sum += callEach(x, i);
        long made = bean.getThreadAllocatedBytes(id) - before - none;
        hold(made < 1024, "calls made " + made + " bytes of objects (" + sum + ")");
    }

    public static void main(String[] args) throws IOException {
        checkFace();
        checkClasses();
        checkSource(Path.of(System.getProperty("source", "src/main/java/MeanCoats.java")));
        checkNothingThrows();
        checkNothingIsMade();
        System.out.println(wrong == 0 ? "all rules hold" : wrong + " rules do not hold");
        if (wrong != 0) System.exit(1);
    }
}
