import java.util.LinkedHashMap;
import java.util.List;
import java.util.Map;

/**
 * What each act changes, and that it changes nothing else: after it all that can be asked of a town is told as by
 * a twin that was not asked, but for the changes named here. Acts that only tell change nothing.
 */
public final class ChangesTest {
    private static final Towns.Maker EMPTY = MeanCoats::new;
    private static final Towns.Maker SMALL = Towns::small;
    private static final Towns.Maker AWAY = Towns::away;
    private static final Towns.Maker FILLED = Towns::full;
    private static final Towns.Maker[] ALL = {EMPTY, SMALL, AWAY, FILLED};
    private static final Map<Towns.Maker, Map<String, Integer>> UNASKED = new LinkedHashMap<>();

    private static Map<String, Integer> unasked(Towns.Maker town) {
        if (!UNASKED.containsKey(town)) UNASKED.put(town, Towns.tellAll(town, null));
        return new LinkedHashMap<>(UNASKED.get(town));
    }

    /** What changes: a name and what it is then, a name and what it is then ..; null: there is none any more. */
    private static void changes(String what, Towns.Maker town, Towns.Call call, Object... changed) {
        Map<String, Integer> want = unasked(town);
        for (int i = 0; i + 1 < changed.length; i += 2) {
            String name = (String) changed[i];
            Object was = changed[i + 1] == null ? want.remove(name) : want.put(name, (Integer) changed[i + 1]);
            Towns.due(what + ": a change of " + name, changed[i + 1] == was ? 0 : 1, 1);
        }
        Towns.dueAll(what, Towns.tellAll(town, call), want);
        counted(what, town, call);
    }

    /** status() counts the finding, if it is one, and no other. */
    private static void counted(String what, Towns.Maker town, Towns.Call call) {
        MeanCoats x = town.make();
        List<Integer> want = Towns.statuses(x);
        int answer = call.on(x);
        if (answer <= Towns.BEYOND) {
            int which = 1 + Towns.BEYOND - answer;
            want.set(0, want.get(0) + 1);
            want.set(which, want.get(which) + 1);
        }
        Towns.dueAll(what + ": status", Towns.statuses(x), want);
    }

    private static void answers(String what, Towns.Maker town, int answer, Towns.Call call, Object... changed) {
        Towns.due(what, call.on(town.make()), answer);
        changes(what, town, call, changed);
    }

    // ---- acts that only tell

    private static void tellingOnly(Towns.Maker town) {
        int bodies = town.make().count(0);
        for (int body = 0; body < bodies; body++) {
            int b = body;
            for (int what = 0; what <= 10; what++) {
                int w = what;
                changes("3", town, x -> x.bodyOf(b, w));
            }
            for (int measure = 0; measure <= 2; measure++) {
                int m = measure;
                changes("23", town, x -> x.sways(b, m));
                changes("24", town, x -> x.sized(b, m));
            }
            changes("12", town, x -> x.cost(b));
            changes("16", town, x -> x.pins(b));
            changes("18", town, x -> x.marry(b, (b + 1) % bodies));
            changes("19", town, x -> x.bride(b));
            changes("25", town, x -> x.bribe(b));
        }
        for (int measure = 0; measure <= 2; measure++) {
            int m = measure;
            changes("10", town, x -> x.coat(m));
            for (int part = 0; part <= 1; part++) {
                int p = part;
                changes("11", town, x -> x.mean(m, p));
            }
        }
        for (int many : new int[] {0, 1, 2, 12}) changes("20", town, x -> x.send(many));
        tellingOnlyOfAll(town);
    }

    private static void tellingOnlyOfAll(Towns.Maker town) {
        changes("13", town, MeanCoats::fits);
        changes("14", town, MeanCoats::costs);
        changes("15", town, MeanCoats::fines);
        changes("17", town, MeanCoats::worst);
        changes("21", town, MeanCoats::best);
        changes("22", town, MeanCoats::easeFor);
        changes("26", town, MeanCoats::settled);
        changes("28", town, MeanCoats::settles);
        for (int i = 0; i < town.make().count(3); i += 19) {
            int spring = i;
            for (int m = 0; m <= 2; m++) {
                int measure = m;
                changes("30", town, x -> x.old(spring, measure));
            }
            changes("31", town, x -> x.lived(spring));
            changes("32", town, x -> x.surely(spring, 0));
            changes("32", town, x -> x.surely(spring, 1));
        }
        for (int spot = 0; spot <= 9; spot++) {
            int i = spot;
            for (int kind = 0; kind <= 6; kind++) {
                int k = kind;
                changes("39", town, x -> x.as(i, k));
            }
        }
        for (int sheet = 0; sheet <= 3; sheet++) {
            int s = sheet;
            changes("44", town, x -> x.judge(s));
        }
        for (int what = 0; what <= 6; what++) {
            int w = what;
            changes("48", town, x -> x.count(w));
        }
        for (int which = -1; which <= 6; which++) {
            int w = which;
            changes("49", town, x -> x.status(w));
        }
    }

    // ---- acts that change something

    private static void ofBodies() {
        Object[] first = {"count 0", 1, "count 1", 1, "body 0 0", 6, "body 0 1", 100, "body 0 2", 100, "body 0 3", 100,
            "body 0 4", 0, "body 0 5", 0, "body 0 6", 1, "body 0 7", 1};
        answers("2 the first", EMPTY, 0, x -> x.body(6), first);
        Object[] fourth = {"count 0", 4, "count 1", 3, "body 3 0", 3, "body 3 1", 100, "body 3 2", 100, "body 3 3", 100,
            "body 3 4", 0, "body 3 5", 0, "body 3 6", 1, "body 3 7", 2};
        answers("2 the fourth", SMALL, 3, x -> x.body(3), fourth);
        answers("4 kind of a briber", SMALL, 2, x -> x.change(0, 0, 1), "body 0 0", 1);
        answers("4 kind of a giant", SMALL, 4, x -> x.change(1, 0, 3), "body 1 0", 3, "body 1 7", 2);
        answers("4 kind of one that is away", SMALL, 6, x -> x.change(2, 0, 2), "body 2 0", 2);
        answers("4 the same kind", SMALL, 6, x -> x.change(2, 0, 6));
        int[] was = {0, 130, 70, 60, 0, 0};
        int[] becomes = {0, 131, 71, 61, 20, 99};
        for (int what = 1; what <= 5; what++) {
            int w = what;
            answers("4 of one that is away", SMALL, was[w], x -> x.change(2, w, becomes[w]), "body 2 " + w, becomes[w]);
        }
        int[] wasLast = {4, 118, 98, 101, 0, 0};
        int[] becomesLast = {1, 50, 250, 249, -20, 1};
        for (int what = 1; what <= 5; what++) {
            int w = what;
            answers("4 of the last", FILLED, wasLast[w], x -> x.change(11, w, becomesLast[w]), "body 11 " + w, becomesLast[w]);
        }
        answers("5 away", SMALL, 1, x -> x.here(0, false), "body 0 6", 0, "count 1", 1);
        answers("5 back", SMALL, 0, x -> x.here(2, true), "body 2 6", 1, "count 1", 3);
        answers("5 here as it was", SMALL, 1, x -> x.here(0, true));
        answers("5 away as it was", SMALL, 0, x -> x.here(2, false));
        answers("5 the last", FILLED, 1, x -> x.here(11, false), "body 11 6", 0, "count 1", 11);
    }

    private static void ofTheTown() {
        answers("6", SMALL, 1, x -> x.rule(2), "rule", 2);
        answers("6", FILLED, 0, x -> x.rule(1), "rule", 1);
        answers("6 as it was", SMALL, 1, x -> x.rule(1));
        answers("7", SMALL, 30, x -> x.ease(999), "ease", 999);
        answers("8", SMALL, 7, x -> x.price(99), "price", 99);
        answers("9 of those here", SMALL, 1, x -> x.famine(50), "body 0 2", 50, "body 1 2", 62);
        answers("9 of nobody here", AWAY, 0, x -> x.famine(50));
        answers("9 of nobody", EMPTY, 0, x -> x.famine(1));
        Object[] starved = new Object[24];
        for (int b = 0; b < 12; b++) {
            starved[2 * b] = "body " + b + " 2";
            starved[2 * b + 1] = 119 - 2 * b;
        }
        answers("9 of twelve", FILLED, 0, x -> x.famine(1), starved);
        answers("27 the middle is the giant's", SMALL, 1, x -> x.rounds(1), "body 0 4", 0);
        answers("27 of nobody here", AWAY, 0, x -> x.rounds(20));
        answers("29 kept", SMALL, 2, MeanCoats::spring, "count 3", 2, "old 1 0", 103, "old 1 1", 112, "old 1 2", 123);
        answers("34", SMALL, -55, x -> x.seed(9), "count 5", 9);
        int z = -55;
        for (int i = 0; i < 2 * 6; i++) z = z * 1103515245 + 12345;
        changes("33 twelve draws", SMALL, x -> x.odds(2), "count 5", z);
        z = 1;
        for (int i = 0; i < 36; i++) z = z * 1103515245 + 12345;
        changes("33 thirty-six draws", FILLED, x -> x.odds(1), "count 5", z);
    }

    private static void ofTheTape() {
        Object[] fed = {"tape bytes", 13, "tape text", -9, "tape ease", 30, "tape price", 7};
        answers("35", SMALL, 13, x -> x.feed('x', 1), fed);
        Object[] emptied = {"tape bytes", 0, "tape text", -1, "tape ease", 30, "tape price", 7};
        answers("36", SMALL, 12, MeanCoats::wipe, emptied);
        answers("37 a fault", SMALL, -9, MeanCoats::text, emptied);
        answers("36 an empty one", EMPTY, 0, MeanCoats::wipe);
        answers("37 an empty one", EMPTY, -1, MeanCoats::text);
        answers("37 it ends too early", FILLED, -121, MeanCoats::text, "tape bytes", 0, "tape text", -1);
        Towns.Maker toRead = () -> {
            MeanCoats x = Towns.small();
            x.wipe();
            Towns.feedAll(x, "rule most;ease 8;price 9;twin 50 60 70 bribe - 3 pins 4");
            return x;
        };
        answers("37 a text", toRead, 4, MeanCoats::text, "rule", 2, "ease", 8, "price", 9, "count 0", 4, "count 1", 3,
            "body 3 0", 3, "body 3 1", 50, "body 3 2", 60, "body 3 3", 70, "body 3 4", -3, "body 3 5", 4, "body 3 6", 1,
            "body 3 7", 2, "tape bytes", 0, "tape text", -1, "tape ease", 8, "tape price", 9);
    }

    private static void ofSpots() {
        answers("38 one that is away", SMALL, 1, x -> x.hold(4, 2), "spot 4", 2, "count 6", 2);
        answers("38 another one", SMALL, 1, x -> x.hold(3, 0), "spot 3", 0);
        answers("38 the same", SMALL, 1, x -> x.hold(3, 1));
        answers("38 nothing", SMALL, 1, x -> x.hold(3, -1), "spot 3", Towns.MISSING, "count 6", 0);
        answers("38 nothing where nothing was", SMALL, 1, x -> x.hold(9, -1));
        answers("38 spot 9", FILLED, 1, x -> x.hold(9, 0), "spot 9", 0);
    }

    private static void ofSheets() {
        Object[] three = {"sheet 0 bits", 16, "sheet 0 length", 3, "sheet 0 number 0", -1, "sheet 0 number 1", -1,
            "sheet 0 number 2", -1, "sheet 0 number 3", null, "sheet 0 number 4", null, "sheet 0 number 5", null};
        answers("40 another one", SMALL, 3, x -> x.sheet(0, 16, 3), three);
        Object[] missing = {"sheet 2 bits", -1, "sheet 2 length", -1, "sheet 2 number 0", null, "sheet 2 number 1", null,
            "sheet 2 number 2", null, "sheet 2 number 3", null, "sheet 2 number 4", null, "sheet 2 number 5", null};
        answers("40 missing", SMALL, 0, x -> x.sheet(2, 0, 6), missing);
        Object[] none = missing.clone();
        none[3] = 0;
        answers("40 of no numbers", SMALL, 0, x -> x.sheet(2, 32, 0), none);
        answers("40 a new one", SMALL, 4, x -> x.sheet(3, 32, 4), "sheet 3 bits", 32, "sheet 3 length", 4,
            "sheet 3 number 0", -1, "sheet 3 number 1", -1, "sheet 3 number 2", -1, "sheet 3 number 3", -1);
        answers("40 missing as it was", SMALL, 0, x -> x.sheet(3, 0, 40));
        answers("41 of 8 bits", SMALL, 1, x -> x.write(0, 0, 256 + 120), "sheet 0 number 0", 120);
        answers("41 of 16 bits", SMALL, 1, x -> x.write(1, 5, 65536 + 250), "sheet 1 number 5", 250);
        answers("41 of 32 bits", FILLED, 1, x -> x.write(2, 39, 250), "sheet 2 number 39", 250);
        answers("42 in itself", SMALL, 3, x -> x.copy(0, 0, 0, 3, 3),
            "sheet 0 number 3", 60, "sheet 0 number 4", 61, "sheet 0 number 5", 62);
        answers("42 none", SMALL, 0, x -> x.copy(0, 6, 0, 0, 0));
        answers("42 to another one", FILLED, 2, x -> x.copy(2, 38, 3, 5, 2), "sheet 3 number 5", 100, "sheet 3 number 6", 101);
        answers("43 two of three", SMALL, 2, x -> x.load(1), "body 0 1", 61, "body 0 2", 62, "body 0 3", 63,
            "body 1 1", 64, "body 1 2", 65, "body 1 3", 66);
        answers("43 of those who are away too", AWAY, 2, x -> x.load(0), "body 0 1", 60, "body 0 2", 61, "body 0 3", 62,
            "body 1 1", 63, "body 1 2", 64, "body 1 3", 65);
        Object[] twelve = new Object[72];
        for (int i = 0; i < 36; i++) {
            twelve[2 * i] = "body " + i / 3 + " " + (1 + i % 3);
            twelve[2 * i + 1] = 61 + i;
        }
        // A measure that is so by chance would be named as a change that is none.
        Towns.Maker large = () -> {
            MeanCoats x = Towns.full();
            for (int b = 0; b < 12; b++) for (int what = 1; what <= 3; what++) x.change(b, what, 250);
            return x;
        };
        answers("43 all twelve", large, 12, x -> x.load(1), twelve);
    }

    // ---- images

    private static Map<String, Integer> keptAs(Map<String, Integer> of, Map<String, Integer> town, int bodies) {
        Map<String, Integer> told = new LinkedHashMap<>(of);
        told.keySet().removeIf(name -> name.startsWith("kept"));
        told.put("kept", bodies);
        told.put("kept torn", 1);
        town.forEach((name, v) -> told.put("kept " + name, v));
        return told;
    }

    private static void ofImages(Towns.Maker town) {
        int bodies = town.make().count(0);
        Map<String, Integer> now = Towns.tell(town.make(), 0);
        Map<String, Integer> kept = keptAs(unasked(town), now, bodies);
        becomes("45", town, 1, MeanCoats::image, kept);
        becomes("45 twice", town, 1, x -> x.image() * x.image(), kept);
        Map<String, Integer> torn = unasked(town);
        torn.keySet().removeIf(name -> name.startsWith("kept"));
        torn.put("kept", Towns.NONE);
        torn.put("kept torn", 0);
        becomes("47", town, town.make().tear(), MeanCoats::tear, torn);
        Towns.Maker changed = () -> {
            MeanCoats x = town.make();
            x.image();
            changeAll(x);
            return x;
        };
        Map<String, Integer> back = keptAs(Towns.tellAll(changed, null), now, bodies);
        back.keySet().removeIf(name -> name.startsWith("body") || name.startsWith("old"));
        back.putAll(now);
        becomes("46", changed, bodies, MeanCoats::undo, back);
        becomes("46 twice", changed, bodies, x -> x.undo() + x.undo() - bodies, back);
    }

    private static void becomes(String what, Towns.Maker town, int answer, Towns.Call call, Map<String, Integer> want) {
        Towns.due(what, call.on(town.make()), answer);
        Towns.dueAll(what, Towns.tellAll(town, call), want);
        counted(what, town, call);
    }

    private static void changeAll(MeanCoats x) {
        x.body(4);
        int bodies = x.count(0);
        int[] other = {3, 201, 202, 203, 13, 14};
        for (int b = 0; b < bodies; b++) {
            for (int what = 0; what <= 5; what++) x.change(b, what, other[what]);
            x.here(b, b % 2 == 0);
        }
        x.rule(2);
        x.ease(345);
        x.price(67);
        x.spring();
        x.seed(89);
        for (int spot = 0; spot <= 9; spot++) x.hold(spot, spot % 2 - 1);
        x.wipe();
        Towns.feedAll(x, "ease 78;pric");
        for (int s = 0; s <= 2; s++) {
            x.sheet(s, 32 >> s, 5);
            for (int i = 0; i < 5; i++) x.write(s, i, 77 + i);
        }
    }

    // ---- two objects at once

    private static void twoTowns() {
        for (Towns.Maker town : ALL) {
            for (Towns.Maker other : ALL) {
                Towns.Maker beside = () -> {
                    MeanCoats x = town.make();
                    MeanCoats y = other.make();
                    y.image();
                    changeAll(y);
                    y.body(-1);
                    return x;
                };
                Towns.dueAll("1 beside another one", Towns.tellAll(beside, null), unasked(town));
                Towns.dueAll("49 beside another one", Towns.statuses(beside.make()), Towns.statuses(town.make()));
                Towns.Maker besideTorn = () -> {
                    MeanCoats x = town.make();
                    MeanCoats y = other.make();
                    y.wipe();
                    for (int s = 0; s <= 3; s++) y.sheet(s, 0, 0);
                    y.image();
                    y.tear();
                    return x;
                };
                Towns.dueAll("1 beside one that is torn", Towns.tellAll(besideTorn, null), unasked(town));
            }
        }
    }

    public static void main(String[] args) {
        for (Towns.Maker town : ALL) {
            tellingOnly(town);
            ofImages(town);
        }
        ofBodies();
        ofTheTown();
        ofTheTape();
        ofSpots();
        ofSheets();
        twoTowns();
        Towns.end();
    }
}
