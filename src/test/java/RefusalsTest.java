import java.util.List;

/**
 * Each finding of each act, in towns of all sorts: that it is told, in what order, that status() counts it and
 * that nothing else changes: a twin of the town that wasn't asked answers the same to everything.
 */
public final class RefusalsTest {
    private static final int BEYOND = Towns.BEYOND;
    private static final int FULL = Towns.FULL;
    private static final int KIND = Towns.KIND;
    private static final int NONE = Towns.NONE;
    private static final int STATE = Towns.STATE;
    private static final int MISSING = Towns.MISSING;
    private static final int SIZE = Towns.SIZE;
    private static final int MIN = Integer.MIN_VALUE;
    private static final int MAX = Integer.MAX_VALUE;

    private static final Towns.Maker EMPTY = MeanCoats::new;
    private static final Towns.Maker SMALL = Towns::small;
    private static final Towns.Maker AWAY = Towns::away;
    private static final Towns.Maker FILLED = Towns::full;
    private static final Towns.Maker[] ALL = {EMPTY, SMALL, AWAY, FILLED};

    private static void refused(String what, Towns.Maker maker, int finding, Towns.Call call) {
        MeanCoats x = maker.make();
        List<Integer> want = Towns.statuses(x);
        Towns.due(what, call.on(x), finding);
        int which = 1 + BEYOND - finding;
        want.set(0, want.get(0) + 1);
        want.set(which, want.get(which) + 1);
        Towns.dueAll(what + ": status", Towns.statuses(x), want);
        for (int part = 0; part < Towns.PARTS; part++) {
            MeanCoats asked = maker.make();
            call.on(asked);
            Towns.dueAll(what + ": part " + part, Towns.tell(asked, part), Towns.tell(maker.make(), part));
        }
    }

    /** The first ones outside, and those farthest off. */
    private static int[] outside(int least, int most) {
        return new int[] {MIN, least - 1, most + 1, MAX};
    }

    private static int[] noBodies(Towns.Maker maker) {
        return outside(0, maker.make().count(0) - 1);
    }

    private static int[] noSprings(Towns.Maker maker) {
        return outside(0, maker.make().count(3) - 1);
    }

    private static void ofBodies(Towns.Maker town) {
        for (int kind : outside(0, 6)) refused("2 kind " + kind, town, BEYOND, x -> x.body(kind));
        for (int b : noBodies(town)) {
            refused("3 body " + b, town, BEYOND, x -> x.bodyOf(b, 0));
            refused("3 body, what " + b, town, BEYOND, x -> x.bodyOf(b, 11));
            refused("4 body " + b, town, BEYOND, x -> x.change(b, 1, 100));
            refused("5 body " + b, town, BEYOND, x -> x.here(b, true));
            refused("5 body " + b, town, BEYOND, x -> x.here(b, false));
        }
        for (int v : outside(0, 2)) refused("6 " + v, town, BEYOND, x -> x.rule(v));
        for (int v : outside(0, 999)) refused("7 " + v, town, BEYOND, x -> x.ease(v));
        for (int v : outside(0, 99)) refused("8 " + v, town, BEYOND, x -> x.price(v));
        for (int n : outside(1, 50)) refused("9 " + n, town, BEYOND, x -> x.famine(n));
    }

    private static void ofOneBody(Towns.Maker town) {
        int last = town.make().count(0) - 1;
        int[][] bounds = {{0, 6}, {50, 250}, {50, 250}, {50, 250}, {-20, 20}, {0, 99}};
        for (int b = 0; b <= last; b += Math.max(1, last)) {
            int body = b;
            for (int what : outside(0, 10)) refused("3 what " + what, town, BEYOND, x -> x.bodyOf(body, what));
            for (int what : outside(0, 5)) {
                for (int v : new int[] {0, 1, 60}) refused("4 what " + what, town, BEYOND, x -> x.change(body, what, v));
            }
            for (int what = 0; what <= 5; what++) {
                int of = what;
                for (int v : outside(bounds[what][0], bounds[what][1])) {
                    refused("4 what " + what + " to " + v, town, BEYOND, x -> x.change(body, of, v));
                }
            }
        }
    }

    private static void ofCoats(Towns.Maker town) {
        for (int m : outside(0, 2)) {
            refused("10 measure " + m, town, BEYOND, x -> x.coat(m));
            refused("11 measure " + m, town, BEYOND, x -> x.mean(m, 0));
            refused("11 measure " + m, town, BEYOND, x -> x.mean(m, 1));
        }
        for (int part : outside(0, 1)) refused("11 part " + part, town, BEYOND, x -> x.mean(0, part));
        for (int b : noBodies(town)) {
            refused("12 body " + b, town, BEYOND, x -> x.cost(b));
            refused("16 body " + b, town, BEYOND, x -> x.pins(b));
            refused("18 one " + b, town, BEYOND, x -> x.marry(b, 0));
            refused("18 other " + b, town, BEYOND, x -> x.marry(0, b));
            refused("18 both " + b, town, BEYOND, x -> x.marry(b, b));
            refused("19 body " + b, town, BEYOND, x -> x.bride(b));
        }
        refused("18 with itself", town, BEYOND, x -> x.marry(0, 0));
        refused("18 with itself", town, BEYOND, x -> x.marry(1, 1));
    }

    /** Nobody is here: what is asked well is answered NONE. */
    private static void ofNoCoat(Towns.Maker town) {
        for (int measure = 0; measure <= 2; measure++) {
            int m = measure;
            refused("10 nobody " + m, town, NONE, x -> x.coat(m));
            refused("11 nobody " + m, town, NONE, x -> x.mean(m, 0));
            refused("11 nobody " + m, town, NONE, x -> x.mean(m, 1));
        }
        int bodies = town.make().count(0);
        for (int body = 0; body < bodies; body++) {
            int b = body;
            refused("12 no coat " + b, town, NONE, x -> x.cost(b));
            refused("16 no coat " + b, town, NONE, x -> x.pins(b));
            refused("18 no coat " + b, town, NONE, x -> x.marry(b, (b + 1) % bodies));
            refused("19 no coat " + b, town, NONE, x -> x.bride(b));
            for (int m = 0; m <= 2; m++) {
                int measure = m;
                refused("23 away " + b, town, STATE, x -> x.sways(b, measure));
                refused("24 away " + b, town, STATE, x -> x.sized(b, measure));
            }
            refused("25 away " + b, town, STATE, x -> x.bribe(b));
        }
        refused("17 nobody", town, NONE, MeanCoats::worst);
        refused("29 nobody", town, NONE, MeanCoats::spring);
        refused("33 nobody", town, NONE, x -> x.odds(1));
        refused("33 nobody", town, NONE, x -> x.odds(30));
    }

    /** One alone, and one far off whom pins can't help. */
    private static void ofCoatsAlone() {
        Towns.Maker alone = () -> {
            MeanCoats x = Towns.away();
            x.here(1, true);
            x.change(0, 1, 250);
            x.ease(0);
            return x;
        };
        refused("19 no other one is here", alone, NONE, x -> x.bride(1));
        Towns.due("19 the other one", alone.make().bride(0), 1);
        Towns.due("16 how far", alone.make().cost(0), 250 - 103 + 112 - 95 + 123 - 100 - 4);
        refused("16 99 aren't enough", alone, NONE, x -> x.pins(0));
    }

    private static void ofSending(Towns.Maker town) {
        for (int n : outside(0, 12)) refused("20 " + n, town, BEYOND, x -> x.send(n));
        for (int b : noBodies(town)) {
            refused("23 body " + b, town, BEYOND, x -> x.sways(b, 0));
            refused("24 body " + b, town, BEYOND, x -> x.sized(b, 0));
            refused("25 body " + b, town, BEYOND, x -> x.bribe(b));
        }
        for (int n : outside(1, 20)) refused("27 " + n, town, BEYOND, x -> x.rounds(n));
        int bodies = town.make().count(0);
        for (int m : outside(0, 2)) {
            for (int body = 0; body < bodies; body++) {
                // In a town with somebody away this tells the order too: BEYOND comes ahead of STATE.
                int b = body;
                refused("23 measure " + m, town, BEYOND, x -> x.sways(b, m));
                refused("24 measure " + m, town, BEYOND, x -> x.sized(b, m));
            }
        }
    }

    private static void ofStates() {
        for (int measure = 0; measure <= 2; measure++) {
            int m = measure;
            refused("23 one that is away", SMALL, STATE, x -> x.sways(2, m));
            refused("24 one that is away", SMALL, STATE, x -> x.sized(2, m));
        }
        refused("25 a sly one that is away", SMALL, STATE, x -> x.bribe(2));
        refused("25 a giant", SMALL, STATE, x -> x.bribe(1));
        for (int body = 0; body < 12; body++) {
            int b = body;
            if (b % 7 != 2 && b % 7 != 6) refused("25 kind " + b % 7, FILLED, STATE, x -> x.bribe(b));
        }
        Towns.Maker round = () -> {
            MeanCoats x = new MeanCoats();
            Towns.man(x, 2, 100, 90, 100);
            Towns.man(x, 2, 100, 84, 100);
            Towns.man(x, 6, 100, 94, 100);
            x.rounds(3);
            return x;
        };
        refused("28 goes round", round, NONE, MeanCoats::settles);
    }

    private static void ofSprings(Towns.Maker town) {
        for (int spring : noSprings(town)) {
            refused("30 spring " + spring, town, BEYOND, x -> x.old(spring, 0));
            refused("31 spring " + spring, town, BEYOND, x -> x.lived(spring));
            refused("32 spring " + spring, town, BEYOND, x -> x.surely(spring, 0));
            refused("32 spring " + spring, town, BEYOND, x -> x.surely(spring, 1));
        }
        for (int n : outside(1, 30)) refused("33 " + n, town, BEYOND, x -> x.odds(n));
        int springs = town.make().count(3);
        for (int spring = 0; spring < springs; spring += 19) {
            int i = spring;
            for (int m : outside(0, 2)) refused("30 measure " + m, town, BEYOND, x -> x.old(i, m));
            for (int what : outside(0, 1)) refused("32 what " + what, town, BEYOND, x -> x.surely(i, what));
        }
    }

    private static void ofSpringsFull() {
        refused("29 a 21st", FILLED, FULL, MeanCoats::spring);
        Towns.Maker nobody = () -> {
            MeanCoats x = Towns.full();
            for (int b = 0; b < 12; b++) x.here(b, false);
            return x;
        };
        refused("29 a 21st, nobody: full first", nobody, FULL, MeanCoats::spring);
        Towns.Maker others = () -> {
            MeanCoats x = Towns.small();
            for (int b = 0; b < 3; b++) x.change(b, 3, 250);
            return x;
        };
        Towns.due("31 there are none", others.make().lived(0), 0);
        refused("32 there are none", others, NONE, x -> x.surely(0, 0));
        refused("32 there are none", others, NONE, x -> x.surely(0, 1));
        for (int what : outside(0, 1)) refused("32 none, what " + what, others, BEYOND, x -> x.surely(0, what));
    }

    private static void ofTapes(Towns.Maker town) {
        for (int n : outside(1, 4)) {
            refused("35 n " + n, town, BEYOND, x -> x.feed(0x65617365, n));
        }
    }

    /** Of a tape with room for less than is fed, none comes. */
    private static void ofTapesFull() {
        for (int room = 0; room <= 3; room++) {
            int had = 120 - room;
            Towns.Maker town = () -> {
                MeanCoats x = Towns.small();
                while (x.count(4) < had) x.feed(';', 1);
                return x;
            };
            for (int many = room + 1; many <= 4; many++) {
                int n = many;
                refused("35 " + n + " of room " + room, town, FULL, x -> x.feed(0x65617365, n));
            }
            for (int n : outside(1, 4)) refused("35 room " + room + ", n " + n, town, BEYOND, x -> x.feed(0, n));
        }
    }

    private static void ofSpots(Towns.Maker town) {
        int bodies = town.make().count(0);
        for (int spot : outside(0, 9)) {
            refused("38 spot " + spot, town, BEYOND, x -> x.hold(spot, -1));
            refused("38 spot " + spot, town, BEYOND, x -> x.hold(spot, 0));
            refused("39 spot " + spot, town, BEYOND, x -> x.as(spot, 0));
            refused("39 spot and kind " + spot, town, BEYOND, x -> x.as(spot, 7));
        }
        for (int b : new int[] {MIN, -2, bodies, MAX}) {
            refused("38 body " + b, town, BEYOND, x -> x.hold(0, b));
            refused("38 body " + b, town, BEYOND, x -> x.hold(9, b));
        }
        // Spot 3 holds something in all towns but the empty one, spot 4 nothing but in the full one.
        for (int kind : outside(0, 6)) {
            refused("39 kind " + kind, town, BEYOND, x -> x.as(3, kind));
            refused("39 kind " + kind, town, BEYOND, x -> x.as(4, kind));
        }
    }

    private static void ofSpotsHeld() {
        for (int kind = 0; kind <= 6; kind++) {
            int k = kind;
            refused("39 nothing as " + k, EMPTY, MISSING, x -> x.as(0, k));
            refused("39 nothing as " + k, SMALL, MISSING, x -> x.as(4, k));
            if (k != 0 && k != 1 && k != 4) refused("39 a giant as " + k, SMALL, KIND, x -> x.as(3, k));
        }
        refused("39 a body as stretched", FILLED, KIND, x -> x.as(5, 1));
    }

    private static void ofSheets(Towns.Maker town) {
        for (int s : outside(0, 3)) {
            refused("40 sheet " + s, town, BEYOND, x -> x.sheet(s, 8, 3));
            refused("40 sheet, n " + s, town, BEYOND, x -> x.sheet(s, 0, -1));
            refused("41 sheet " + s, town, BEYOND, x -> x.write(s, 0, 5));
            refused("42 sheet " + s, town, BEYOND, x -> x.copy(s, 0, 3, 0, 0));
            refused("42 to sheet " + s, town, BEYOND, x -> x.copy(3, 0, s, 0, 0));
            refused("43 sheet " + s, town, BEYOND, x -> x.load(s));
            refused("44 sheet " + s, town, BEYOND, x -> x.judge(s));
        }
        for (int sheet = 0; sheet <= 3; sheet++) {
            int s = sheet;
            for (int bits : new int[] {MIN, -8, -1, 1, 7, 9, 15, 17, 24, 31, 33, 64, MAX}) {
                refused("40 bits " + bits, town, BEYOND, x -> x.sheet(s, bits, 3));
                refused("40 bits ahead of n " + bits, town, BEYOND, x -> x.sheet(s, bits, -1));
            }
            for (int bits : new int[] {0, 8, 16, 32}) {
                for (int n : new int[] {-1, MIN}) refused("40 n " + n, town, SIZE, x -> x.sheet(s, bits, n));
                for (int n : new int[] {41, MAX}) refused("40 n " + n, town, BEYOND, x -> x.sheet(s, bits, n));
            }
        }
    }

    private static void ofNumbers(Towns.Maker town, int n) {
        for (int sheet = 0; sheet <= 2; sheet++) {
            int s = sheet;
            for (int i : outside(0, n - 1)) refused("41 number " + i, town, BEYOND, x -> x.write(s, i, 5));
            for (int v : new int[] {MIN, -1, n + 1, MAX}) {
                refused("42 from " + v, town, BEYOND, x -> x.copy(s, v, s, 0, 0));
                refused("42 to " + v, town, BEYOND, x -> x.copy(s, 0, s, v, 0));
                refused("42 n " + v, town, BEYOND, x -> x.copy(s, 0, s, 0, v));
            }
            refused("42 one has not so many", town, BEYOND, x -> x.copy(s, n, s, 0, 1));
            refused("42 one has not so many", town, BEYOND, x -> x.copy(s, 0, s, n, 1));
            refused("42 one has not so many", town, BEYOND, x -> x.copy(s, 1, s, 0, n));
            refused("42 one has not so many", town, BEYOND, x -> x.copy(s, 0, s, 1, n));
            refused("42 wraps around", town, BEYOND, x -> x.copy(s, MAX, s, 0, 1));
            refused("42 wraps around", town, BEYOND, x -> x.copy(s, 0, s, MAX, MAX));
            refused("42 wraps around", town, BEYOND, x -> x.copy(s, 1, s, 1, MAX));
            refused("42 other bits", town, KIND, x -> x.copy(s, 0, (s + 1) % 3, 0, 1));
            refused("42 other bits", town, KIND, x -> x.copy((s + 1) % 3, 0, s, 0, 0));
            refused("42 other bits, from -1", town, KIND, x -> x.copy(s, -1, (s + 1) % 3, -1, -1));
        }
    }

    private static void ofMissing(Towns.Maker town, int s) {
        for (int i : new int[] {MIN, -1, 0, 40, MAX}) {
            refused("41 missing " + i, town, MISSING, x -> x.write(s, i, 5));
            refused("42 missing " + i, town, MISSING, x -> x.copy(s, i, 0, 0, 0));
            refused("42 missing " + i, town, MISSING, x -> x.copy(0, 0, s, i, 1));
            refused("42 both missing " + i, town, MISSING, x -> x.copy(s, 0, s, 0, i));
        }
        refused("43 missing", town, MISSING, x -> x.load(s));
        refused("44 missing", town, MISSING, x -> x.judge(s));
    }

    private static void ofImages(Towns.Maker town) {
        for (int what : outside(0, 6)) refused("48 " + what, town, BEYOND, x -> x.count(what));
        for (int which : outside(-1, 6)) refused("49 " + which, town, BEYOND, x -> x.status(which));
        Towns.Maker torn = () -> {
            MeanCoats x = town.make();
            x.tear();
            return x;
        };
        refused("46 nothing is kept", torn, NONE, MeanCoats::undo);
    }

    public static void main(String[] args) {
        for (Towns.Maker town : ALL) {
            ofBodies(town);
            ofOneBody(town);
            ofCoats(town);
            ofSending(town);
            ofSprings(town);
            ofTapes(town);
            ofSpots(town);
            ofSheets(town);
            ofImages(town);
        }
        for (int kind = 0; kind <= 6; kind++) {
            int k = kind;
            refused("2 a 13th", FILLED, FULL, x -> x.body(k));
        }
        ofNoCoat(EMPTY);
        ofNoCoat(AWAY);
        ofCoatsAlone();
        ofStates();
        ofSpringsFull();
        ofTapesFull();
        ofSpotsHeld();
        ofNumbers(SMALL, 6);
        ofNumbers(FILLED, 40);
        for (int s = 0; s <= 3; s++) ofMissing(EMPTY, s);
        ofMissing(SMALL, 3);
        for (int s = 0; s <= 2; s++) {
            int sheet = s;
            refused("44 no coat", AWAY, NONE, x -> x.judge(sheet));
        }
        refused("44 missing ahead of no coat", AWAY, MISSING, x -> x.judge(3));
        refused("46 nothing was kept", EMPTY, NONE, MeanCoats::undo);
        Towns.end();
    }
}
