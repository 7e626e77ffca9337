/** Each promise by its number: ordinary inputs, the edges that the document names, and wrong inputs. */
public final class PromisesTest {
    private static final int BEYOND = -1000001;
    private static final int FULL = -1000002;
    private static final int KIND = -1000003;
    private static final int NONE = -1000004;
    private static final int STATE = -1000005;
    private static final int MISSING = -1000006;
    private static final int SIZE = -1000007;

    private static int wrong = 0;
    private static int checked = 0;

    private static void due(String what, long got, long want) {
        checked++;
        if (got != want) {
            wrong++;
            System.out.println(what + " answered " + got + ", due is " + want);
        }
    }

    /** Many answers at once, in their order. */
    private static void dueAll(String what, int[] got, int... want) {
        due(what + ": how many", got.length, want.length);
        for (int i = 0; i < got.length && i < want.length; i++) due(what + " [" + i + "]", got[i], want[i]);
    }

    private static int man(MeanCoats x, int kind, int longs, int wide, int arm) {
        int body = x.body(kind);
        x.change(body, 1, longs);
        x.change(body, 2, wide);
        x.change(body, 3, arm);
        return body;
    }

    /** Bodies that are unlike in LONG alone. */
    private static MeanCoats longs(int ease, int... longs) {
        MeanCoats x = new MeanCoats();
        for (int v : longs) man(x, 0, v, 100, 100);
        x.ease(ease);
        return x;
    }

    /** Bodies of kinds that are unlike in WIDE alone: kind, wide, kind, wide .. */
    private static MeanCoats wides(int... kindsAndWides) {
        MeanCoats x = new MeanCoats();
        for (int i = 0; i < kindsAndWides.length; i += 2) man(x, kindsAndWides[i], 100, kindsAndWides[i + 1], 100);
        return x;
    }

    private static void feedAll(MeanCoats x, String text) {
        x.wipe();
        for (int i = 0; i < text.length(); i++) x.feed(text.charAt(i), 1);
    }

    private static int read(MeanCoats x, String text) {
        feedAll(x, text);
        return x.text();
    }

    private static int[] coat(MeanCoats x) {
        return new int[] {x.coat(0), x.coat(1), x.coat(2)};
    }

    private static int[] told(MeanCoats x, int body) {
        int[] told = new int[11];
        for (int what = 0; what <= 10; what++) told[what] = x.bodyOf(body, what);
        return told;
    }

    private static int[] counts(MeanCoats x) {
        int[] counts = new int[7];
        for (int what = 0; what <= 6; what++) counts[what] = x.count(what);
        return counts;
    }

    private static int[] statuses(MeanCoats x) {
        int[] told = new int[8];
        for (int which = -1; which <= 6; which++) told[which + 1] = x.status(which);
        return told;
    }

    private static void promise1() {
        MeanCoats x = new MeanCoats();
        dueAll("1 counts", counts(x), 0, 0, 0, 0, 0, 1, 0);
        dueAll("1 statuses", statuses(x), 0, 0, 0, 0, 0, 0, 0, 0);
        due("1 rule", x.rule(0), 0);
        due("1 ease", x.ease(20), 20);
        due("1 price", x.price(1), 1);
        due("1 seed", x.seed(1), 1);
        due("1 wipe", x.wipe(), 0);
        for (int spot = 0; spot < 10; spot++) due("1 as", x.as(spot, 0), MISSING);
        for (int s = 0; s < 4; s++) due("1 write", x.write(s, 0, 0), MISSING);
        due("1 undo", x.undo(), NONE);
        due("1 tear", x.tear(), 0);
        due("1 old", x.old(0, 0), BEYOND);
    }

    private static void promise2() {
        MeanCoats x = new MeanCoats();
        due("2 kind -1", x.body(-1), BEYOND);
        due("2 kind 7", x.body(7), BEYOND);
        for (int b = 0; b < 12; b++) {
            due("2 a new one", x.body(b % 7), b);
            due("2 its kind", x.bodyOf(b, 0), b % 7);
            for (int what = 1; what <= 3; what++) due("2 its measures", x.bodyOf(b, what), 100);
            due("2 its bribe", x.bodyOf(b, 4), 0);
            due("2 its pins", x.bodyOf(b, 5), 0);
            due("2 it is here", x.bodyOf(b, 6), 1);
        }
        due("2 a 13th", x.body(0), FULL);
        due("2 a 13th of no kind", x.body(7), BEYOND);
        due("2 count", x.count(0), 12);
    }

    private static void promise3() {
        MeanCoats x = new MeanCoats();
        for (int kind = 0; kind <= 6; kind++) {
            man(x, kind, 110 + kind, 120, 130);
            x.change(kind, 4, -7);
            x.change(kind, 5, 9);
        }
        dueAll("3 body", told(x, 0), 0, 110, 120, 130, -7, 9, 1, 1, 110, 120, 130);
        dueAll("3 stretched", told(x, 1), 1, 111, 120, 130, -7, 9, 1, 1, 113, 120, 130);
        dueAll("3 briber", told(x, 2), 2, 112, 120, 130, -7, 9, 1, 1, 112, 113, 130);
        dueAll("3 twin", told(x, 3), 3, 113, 120, 130, -7, 9, 1, 2, 113, 120, 130);
        dueAll("3 giant", told(x, 4), 4, 114, 120, 130, -7, 9, 1, 3, 116, 120, 130);
        dueAll("3 thin", told(x, 5), 5, 115, 120, 130, -7, 9, 1, 1, 115, 110, 130);
        dueAll("3 sly", told(x, 6), 6, 116, 120, 130, -7, 9, 1, 1, 116, 106, 130);
        x.here(3, false);
        due("3 sent away", x.bodyOf(3, 6), 0);
        x.change(6, 2, 50);
        x.change(6, 4, -20);
        due("3 what is measured isn't held", x.bodyOf(6, 9), 10);
        x.change(5, 2, 50);
        due("3 thin below 50", x.bodyOf(5, 9), 40);
        x.change(1, 1, 250);
        due("3 stretched above 250", x.bodyOf(1, 8), 252);
        due("3 no such body", x.bodyOf(7, 0), BEYOND);
        due("3 body -1", x.bodyOf(-1, 0), BEYOND);
        due("3 what 11", x.bodyOf(0, 11), BEYOND);
        due("3 what -1", x.bodyOf(0, -1), BEYOND);
    }

    private static void promise4() {
        MeanCoats x = new MeanCoats();
        x.body(3);
        x.body(0);
        due("4 kind", x.change(0, 0, 6), 3);
        due("4 kind 0", x.change(0, 0, 0), 6);
        for (int what = 1; what <= 3; what++) {
            due("4 measure", x.change(0, what, 50), 100);
            due("4 measure", x.change(0, what, 250), 50);
            due("4 measure", x.change(0, what, 50 + what), 250);
            due("4 below 50", x.change(0, what, 49), BEYOND);
            due("4 above 250", x.change(0, what, 251), BEYOND);
        }
        due("4 bribe", x.change(0, 4, -20), 0);
        due("4 bribe", x.change(0, 4, 20), -20);
        due("4 bribe -21", x.change(0, 4, -21), BEYOND);
        due("4 bribe 21", x.change(0, 4, 21), BEYOND);
        due("4 pins", x.change(0, 5, 99), 0);
        due("4 pins 100", x.change(0, 5, 100), BEYOND);
        due("4 pins -1", x.change(0, 5, -1), BEYOND);
        due("4 kind 7", x.change(0, 0, 7), BEYOND);
        due("4 kind -1", x.change(0, 0, -1), BEYOND);
        due("4 what 6", x.change(0, 6, 1), BEYOND);
        due("4 what -1", x.change(0, -1, 1), BEYOND);
        due("4 no such body", x.change(2, 0, 0), BEYOND);
        due("4 body -1", x.change(-1, 0, 0), BEYOND);
        dueAll("4 all of it", told(x, 0), 0, 51, 52, 53, 20, 99, 1, 1, 51, 52, 53);
        dueAll("4 the other one", told(x, 1), 0, 100, 100, 100, 0, 0, 1, 1, 100, 100, 100);
    }

    private static void promise5() {
        MeanCoats x = longs(20, 100, 120);
        due("5 away", x.here(1, false), 1);
        due("5 away again", x.here(1, false), 0);
        due("5 the coat is for those here", x.coat(0), 100);
        due("5 the other one", x.bodyOf(0, 6), 1);
        due("5 back", x.here(1, true), 0);
        due("5 still here", x.here(1, true), 1);
        due("5 the coat", x.coat(0), 110);
        due("5 no such", x.here(2, true), BEYOND);
        due("5 body -1", x.here(-1, false), BEYOND);
    }

    private static void promise6() {
        MeanCoats x = longs(20, 100, 103, 130);
        due("6 to 2", x.rule(2), 0);
        due("6 most", x.coat(0), 130);
        due("6 to 1", x.rule(1), 2);
        due("6 middle", x.coat(0), 103);
        due("6 rule 3", x.rule(3), BEYOND);
        due("6 rule -1", x.rule(-1), BEYOND);
        due("6 to 0", x.rule(0), 1);
        due("6 mean", x.coat(0), 111);
    }

    private static void promise7() {
        MeanCoats x = longs(20, 100, 140);
        due("7 cost is ease", x.fits(), 3);
        due("7 to 19", x.ease(19), 20);
        due("7 cost above ease", x.fits(), 0);
        due("7 to 999", x.ease(999), 19);
        due("7 1000", x.ease(1000), BEYOND);
        due("7 -1", x.ease(-1), BEYOND);
        due("7 to 0", x.ease(0), 999);
    }

    private static void promise8() {
        MeanCoats x = longs(20, 100);
        x.change(0, 5, 7);
        due("8 to 99", x.price(99), 1);
        due("8 fines", x.fines(), 693);
        due("8 100", x.price(100), BEYOND);
        due("8 -1", x.price(-1), BEYOND);
        due("8 to 0", x.price(0), 99);
        due("8 no fines", x.fines(), 0);
    }

    private static void promise9() {
        MeanCoats x = wides(0, 100, 2, 60, 0, 50, 0, 90);
        x.here(3, false);
        due("9 none would starve twice", x.famine(10), 2);
        dueAll("9 widths", new int[] {x.bodyOf(0, 2), x.bodyOf(1, 2), x.bodyOf(2, 2), x.bodyOf(3, 2)}, 90, 50, 50, 90);
        due("9 the least", x.famine(1), 2);
        due("9 by one", x.bodyOf(0, 2), 89);
        due("9 the most", x.famine(50), 3);
        due("9 long stays", x.bodyOf(0, 1), 100);
        due("9 arm stays", x.bodyOf(0, 3), 100);
        due("9 away stays", x.bodyOf(3, 2), 90);
        due("9 0", x.famine(0), BEYOND);
        due("9 51", x.famine(51), BEYOND);
        due("9 nobody", new MeanCoats().famine(1), 0);
    }

    private static void promise10() {
        MeanCoats x = new MeanCoats();
        due("10 nobody", x.coat(0), NONE);
        due("10 nobody, no measure", x.coat(3), BEYOND);
        man(x, 0, 100, 60, 70);
        man(x, 3, 110, 80, 71);
        man(x, 4, 130, 90, 73);
        dueAll("10 mean", coat(x), 119, 81, 71);
        x.rule(1);
        dueAll("10 middle", coat(x), 110, 80, 71);
        x.rule(2);
        dueAll("10 most", coat(x), 132, 90, 73);
        due("10 measure 3", x.coat(3), BEYOND);
        due("10 measure -1", x.coat(-1), BEYOND);
        x.here(2, false);
        x.here(0, false);
        x.rule(1);
        dueAll("10 middle of two alike", coat(x), 110, 80, 71);
        x.here(1, false);
        due("10 all away", x.coat(1), NONE);
        MeanCoats even = longs(20, 104, 101, 103, 102);
        even.rule(1);
        due("10 middle of four is the second", even.coat(0), 102);
        MeanCoats bribed = wides(2, 90, 6, 100, 5, 110);
        bribed.change(0, 4, 6);
        bribed.change(1, 4, 3);
        due("10 as they are measured", bribed.coat(1), 100);
        bribed.rule(2);
        due("10 most as measured", bribed.coat(1), 106);
    }

    private static void promise11() {
        MeanCoats x = new MeanCoats();
        due("11 nobody", x.mean(0, 0), NONE);
        man(x, 0, 100, 60, 70);
        man(x, 3, 110, 80, 71);
        man(x, 4, 130, 90, 72);
        for (int rule = 0; rule <= 2; rule++) {
            x.rule(rule);
            due("11 long above", x.mean(0, 0), 358);
            due("11 long below", x.mean(0, 1), 3);
            due("11 wide above", x.mean(1, 0), 245);
            due("11 wide below", x.mean(1, 1), 3);
            due("11 arm above", x.mean(2, 0), 214);
            due("11 arm below", x.mean(2, 1), 3);
        }
        x.here(1, false);
        x.here(2, false);
        due("11 whole above", x.mean(0, 0), 100);
        due("11 whole below", x.mean(0, 1), 1);
        due("11 part 2", x.mean(0, 2), BEYOND);
        due("11 part -1", x.mean(0, -1), BEYOND);
        due("11 measure 3", x.mean(3, 0), BEYOND);
        due("11 measure -1", x.mean(-1, 0), BEYOND);
        x.here(0, false);
        due("11 all away", x.mean(2, 1), NONE);
        due("11 all away, part 2", x.mean(2, 2), BEYOND);
    }

    private static void promise12() {
        MeanCoats x = new MeanCoats();
        due("12 no such", x.cost(0), BEYOND);
        man(x, 0, 100, 100, 100);
        man(x, 1, 120, 90, 105);
        man(x, 0, 200, 200, 200);
        x.here(2, false);
        dueAll("12 the coat", coat(x), 111, 95, 102);
        due("12 all three, as it is", x.cost(0), 18);
        due("12 not as measured", x.cost(1), 17);
        due("12 not here", x.cost(2), 292);
        x.change(0, 5, 17);
        due("12 less pins", x.cost(0), 1);
        x.change(0, 5, 18);
        due("12 none left", x.cost(0), 0);
        x.change(0, 5, 99);
        due("12 not below 0", x.cost(0), 0);
        due("12 body -1", x.cost(-1), BEYOND);
        due("12 body 3", x.cost(3), BEYOND);
        x.here(0, false);
        x.here(1, false);
        due("12 no coat", x.cost(0), NONE);
        due("12 no coat, no such", x.cost(3), BEYOND);
    }

    private static void promise13() {
        MeanCoats x = longs(10, 100, 110, 120, 140);
        due("13 nobody", new MeanCoats().fits(), 0);
        due("13 of four", x.fits(), 2 + 4);
        x.here(3, false);
        due("13 of three", x.fits(), 7);
        x.here(1, false);
        due("13 only those here", x.fits(), 5);
        x.ease(9);
        due("13 by ease", x.fits(), 0);
        x.change(2, 5, 1);
        due("13 by pins", x.fits(), 4);
    }

    private static void promise14() {
        MeanCoats x = longs(10, 100, 110, 130);
        due("14 nobody", new MeanCoats().costs(), 0);
        due("14 three", x.costs(), 13 + 3 + 17);
        x.change(1, 5, 5);
        due("14 each 0 at least", x.costs(), 13 + 0 + 17);
        x.here(2, false);
        due("14 two", x.costs(), 5 + 0);
    }

    private static void promise15() {
        MeanCoats x = longs(10, 100, 110, 130);
        due("15 no pins", x.fines(), 0);
        x.change(0, 5, 5);
        x.change(1, 5, 7);
        x.change(2, 5, 99);
        due("15 by 1", x.fines(), 111);
        x.price(3);
        due("15 by 3", x.fines(), 333);
        x.here(2, false);
        due("15 those here", x.fines(), 36);
        due("15 nobody", new MeanCoats().fines(), 0);
    }

    private static void promise16() {
        MeanCoats x = longs(20, 100, 100, 100, 100, 250);
        x.here(4, false);
        x.change(4, 5, 60);
        due("16 150 off: 99 aren't enough", x.pins(4), NONE);
        x.ease(50);
        due("16 100 needed", x.pins(4), NONE);
        x.ease(51);
        due("16 99 are enough", x.pins(4), 99);
        x.ease(149);
        due("16 one", x.pins(4), 1);
        x.ease(150);
        due("16 none", x.pins(4), 0);
        due("16 fits already", x.pins(0), 0);
        due("16 no such", x.pins(5), BEYOND);
        due("16 body -1", x.pins(-1), BEYOND);
        for (int b = 0; b < 4; b++) x.here(b, false);
        due("16 no coat", x.pins(0), NONE);
        due("16 no coat, no such", x.pins(5), BEYOND);
    }

    private static void promise17() {
        MeanCoats x = longs(20, 110, 100, 120, 250);
        due("17 nobody", new MeanCoats().worst(), NONE);
        due("17 the farthest", x.worst(), 3);
        x.here(3, false);
        due("17 of two the least number", x.worst(), 1);
        x.change(1, 5, 1);
        due("17 cost, not how far", x.worst(), 2);
        MeanCoats alike = longs(20, 100, 100);
        due("17 all at 0", alike.worst(), 0);
        alike.here(0, false);
        due("17 the only one here", alike.worst(), 1);
    }

    private static void promise18() {
        MeanCoats x = new MeanCoats();
        due("18 no such", x.marry(0, 1), BEYOND);
        man(x, 0, 100, 100, 100);
        man(x, 1, 121, 91, 104);
        dueAll("18 the coat", coat(x), 111, 95, 102);
        due("18 half, cut", x.marry(0, 1), 1);
        due("18 the other way", x.marry(1, 0), 1);
        man(x, 0, 200, 55, 250);
        x.here(2, false);
        due("18 one is away", x.marry(2, 0), 39 + 18 + 73);
        x.change(2, 5, 99);
        due("18 without pins", x.marry(0, 2), 130);
        due("18 with itself", x.marry(1, 1), BEYOND);
        due("18 one 3", x.marry(3, 0), BEYOND);
        due("18 one -1", x.marry(-1, 0), BEYOND);
        due("18 other 3", x.marry(0, 3), BEYOND);
        due("18 other -1", x.marry(0, -1), BEYOND);
        x.here(0, false);
        x.here(1, false);
        due("18 no coat", x.marry(0, 1), NONE);
        due("18 no coat, with itself", x.marry(0, 0), BEYOND);
    }

    private static void promise19() {
        MeanCoats x = longs(20, 100, 140, 150, 90, 150);
        x.here(3, false);
        due("19 the coat", x.coat(0), 135);
        due("19 of two the least number", x.bride(0), 2);
        due("19 not itself", x.bride(2), 0);
        due("19 one that is away", x.bride(3), 2);
        due("19 no such", x.bride(5), BEYOND);
        due("19 body -1", x.bride(-1), BEYOND);
        for (int b = 1; b < 5; b++) x.here(b, false);
        due("19 no other one", x.bride(0), NONE);
        due("19 the only one", x.bride(3), 0);
        x.here(0, false);
        due("19 nobody", x.bride(3), NONE);
        due("19 nobody, no such", x.bride(5), BEYOND);
    }

    private static void promise20() {
        MeanCoats x = longs(0, 100, 100, 102, 104);
        due("20 none sent", x.send(0), 0);
        due("20 one", x.send(1), 8);
        due("20 the fewest", x.send(2), 8);
        due("20 all", x.send(12), 8);
        due("20 13", x.send(13), BEYOND);
        due("20 -1", x.send(-1), BEYOND);
        due("20 it isn't done", x.count(1), 4);
        due("20 the least", longs(0, 100, 102).send(1), 1);
        due("20 all fit already", longs(20, 100, 102).send(5), 0);
        due("20 nobody", new MeanCoats().send(3), 0);
        MeanCoats two = longs(0, 150, 200, 100, 100, 100);
        due("20 one is of no use", two.send(1), 0);
        due("20 two", two.send(2), 3);
        due("20 two are enough", two.send(3), 3);
        two.here(0, false);
        due("20 of those here alone", two.send(2), 2);
        MeanCoats pair = longs(0, 100, 200, 100, 200);
        due("20 one leaves none that fits", pair.send(1), 0);
        due("20 of pairs the least", pair.send(2), 5);
        due("20 more of them are of no use", pair.send(4), 5);
        MeanCoats most = longs(0, 100, 104, 104, 110);
        most.rule(2);
        due("20 by the rule", most.send(1), 8);
    }

    private static void promise21() {
        due("21 nobody", new MeanCoats().best(), 0);
        due("21 all the same", longs(0, 100, 100).best(), 0);
        MeanCoats x = longs(0, 100, 100, 130);
        due("21 middle", x.best(), 1);
        x.rule(2);
        due("21 whatever rule", x.best(), 1);
        due("21 it isn't taken", x.rule(0), 2);
        MeanCoats most = longs(0, 100, 110, 120, 130, 130, 130);
        most.here(1, false);
        due("21 middle and most: the least", most.best(), 1);
        MeanCoats top = longs(0, 100, 101, 103, 105, 130, 130);
        due("21 most", top.best(), 2);
        due("21 mean and middle", longs(10, 100, 101, 120).best(), 0);
        due("21 mean alone", longs(14, 100, 101, 121).best(), 0);
    }

    private static void promise22() {
        due("22 nobody", new MeanCoats().easeFor(), 0);
        MeanCoats x = longs(3, 100, 110, 130);
        due("22 the most cost", x.easeFor(), 17);
        x.change(2, 5, 10);
        due("22 less pins", x.easeFor(), 13);
        x.here(0, false);
        due("22 those here", x.easeFor(), 10);
        due("22 ease stays", x.ease(0), 3);
        MeanCoats far = new MeanCoats();
        for (int b = 0; b < 6; b++) man(far, 4, 250, 250, 250);
        man(far, 0, 50, 50, 50);
        far.rule(2);
        due("22 far off", far.easeFor(), 602);
    }

    private static void promise23() {
        MeanCoats x = longs(20, 100, 100, 100);
        due("23 mean", x.sways(0, 0), 67);
        due("23 it stays", x.bodyOf(0, 1), 100);
        x.change(1, 0, 4);
        x.here(2, false);
        due("23 giant", x.sways(1, 0), 150);
        due("23 in another measure", x.sways(1, 1), 150);
        due("23 beside a giant", x.sways(0, 2), 50);
        x.here(2, true);
        x.change(1, 0, 0);
        x.change(1, 1, 95);
        x.change(2, 1, 107);
        x.rule(1);
        due("23 middle", x.sways(0, 0), 12);
        x.rule(2);
        due("23 most", x.sways(0, 0), 143);
        x.here(1, false);
        due("23 it is away", x.sways(1, 0), STATE);
        due("23 away, no measure", x.sways(1, 3), BEYOND);
        due("23 measure -1", x.sways(0, -1), BEYOND);
        due("23 no such", x.sways(3, 0), BEYOND);
        due("23 body -1", x.sways(-1, 0), BEYOND);
        due("23 alone", longs(20, 70).sways(0, 0), 200);
    }

    private static void promise24() {
        MeanCoats x = longs(0, 120, 100);
        due("24 both fit", x.sized(0, 0), 100);
        x.ease(10);
        due("24 the least of several", x.sized(0, 0), 80);
        due("24 it stays", x.bodyOf(0, 1), 120);
        x.here(1, false);
        due("24 alone", x.sized(0, 0), 50);
        due("24 it is away", x.sized(1, 0), STATE);
        due("24 away, no measure", x.sized(1, 3), BEYOND);
        due("24 measure -1", x.sized(0, -1), BEYOND);
        due("24 no such", x.sized(2, 0), BEYOND);
        due("24 body -1", x.sized(-1, 0), BEYOND);
        MeanCoats far = longs(0, 60, 250, 250);
        far.rule(2);
        due("24 up to 250", far.sized(0, 0), 250);
        far.change(0, 2, 101);
        due("24 by another measure", far.sized(0, 1), 50);
    }

    private static void promise25() {
        MeanCoats x = wides(2, 100, 0, 120, 6, 100);
        x.here(2, false);
        due("25 nearest to 0", x.bribe(0), -19);
        due("25 it isn't done", x.bodyOf(0, 4), 0);
        x.change(0, 4, 20);
        due("25 whatever it is", x.bribe(0), -19);
        x.change(0, 5, 5);
        due("25 with pins", x.bribe(0), -9);
        due("25 no briber", x.bribe(1), STATE);
        due("25 it is away", x.bribe(2), STATE);
        due("25 no such", x.bribe(3), BEYOND);
        due("25 body -1", x.bribe(-1), BEYOND);
        x.here(2, true);
        x.here(0, false);
        due("25 sly", x.bribe(2), -10);
        MeanCoats up = wides(2, 120, 0, 100);
        due("25 up", up.bribe(0), 20);
        up.change(0, 2, 108);
        due("25 up, nearest", up.bribe(0), 8);
        for (int kind : new int[] {0, 1, 3, 4, 5}) {
            up.change(0, 0, kind);
            due("25 of kind " + kind, up.bribe(0), STATE);
        }
    }

    private static void promise26() {
        due("26 nobody", new MeanCoats().settled(), 1);
        due("26 no bribers", longs(20, 100, 200).settled(), 1);
        MeanCoats x = wides(2, 100, 0, 120);
        due("26 would have less", x.settled(), 0);
        x.change(0, 4, -20);
        due("26 as good as the best", x.settled(), 1);
        x.change(0, 4, -18);
        due("26 one off", x.settled(), 0);
        due("26 its bribe stays", x.bodyOf(0, 4), -18);
        x.here(0, false);
        due("26 away", x.settled(), 1);
        MeanCoats sly = wides(0, 120, 6, 100);
        due("26 sly", sly.settled(), 0);
        sly.change(1, 0, 5);
        due("26 thin", sly.settled(), 1);
    }

    private static void promise27() {
        due("27 nobody", new MeanCoats().rounds(1), 0);
        MeanCoats x = wides(2, 100, 0, 120);
        due("27 one", x.rounds(1), 1);
        due("27 its bribe", x.bodyOf(0, 4), -19);
        due("27 once more", x.rounds(20), 0);
        x.change(0, 4, -20);
        due("27 as good, but nearer to 0", x.rounds(1), 1);
        due("27 it is -19", x.bodyOf(0, 4), -19);
        due("27 0", x.rounds(0), BEYOND);
        due("27 21", x.rounds(21), BEYOND);
        x.change(0, 4, 3);
        x.here(0, false);
        due("27 away", x.rounds(1), 0);
        due("27 away stays", x.bodyOf(0, 4), 3);
        MeanCoats two = wides(2, 81, 2, 80);
        due("27 by numbers", two.rounds(1), 2);
        dueAll("27 the coat anew each time", new int[] {two.bodyOf(0, 4), two.bodyOf(1, 4)}, 1, -1);
    }

    private static void promise28() {
        due("28 nobody", new MeanCoats().settles(), 0);
        MeanCoats x = wides(2, 100, 0, 120);
        due("28 one", x.settles(), 1);
        due("28 it isn't done", x.bodyOf(0, 4), 0);
        x.rounds(1);
        due("28 none needed", x.settles(), 0);
        due("28 never", wides(2, 90, 2, 84, 6, 94).settles(), NONE);
        due("28 17", wides(2, 92, 6, 97, 6, 98).settles(), 17);
        MeanCoats far = wides(4, 91, 3, 102, 6, 116, 6, 100, 2, 102, 2, 92);
        due("28 51 are too many", far.settles(), NONE);
        far.rounds(1);
        due("28 50", far.settles(), 50);
        far.rounds(20);
        due("28 30", far.settles(), 30);
        far.rounds(20);
        due("28 10", far.settles(), 10);
        due("28 not yet", far.settled(), 0);
        far.rounds(10);
        due("28 now", far.settled(), 1);
        MeanCoats behind = wides(2, 92, 6, 97, 6, 98);
        behind.rounds(16);
        due("28 not behind 16", behind.settled(), 0);
        behind.rounds(1);
        due("28 behind 17", behind.settled(), 1);
    }

    private static void promise29() {
        MeanCoats x = longs(20, 100);
        for (int i = 1; i <= 20; i++) {
            x.change(0, 1, 100 + i);
            due("29 kept", x.spring(), i);
        }
        due("29 a 21st", x.spring(), FULL);
        for (int i = 0; i < 20; i++) due("29 as it was", x.old(i, 0), 101 + i);
        x.here(0, false);
        due("29 full, nobody", x.spring(), FULL);
        due("29 count", x.count(3), 20);
        due("29 nobody", new MeanCoats().spring(), NONE);
    }

    private static void promise30() {
        MeanCoats x = new MeanCoats();
        due("30 none yet", x.old(0, 0), BEYOND);
        man(x, 0, 101, 102, 103);
        x.spring();
        man(x, 0, 201, 202, 203);
        x.rule(2);
        x.spring();
        dueAll("30 first", new int[] {x.old(0, 0), x.old(0, 1), x.old(0, 2)}, 101, 102, 103);
        dueAll("30 second", new int[] {x.old(1, 0), x.old(1, 1), x.old(1, 2)}, 201, 202, 203);
        due("30 spring 2", x.old(2, 0), BEYOND);
        due("30 spring -1", x.old(-1, 0), BEYOND);
        due("30 measure 3", x.old(0, 3), BEYOND);
        due("30 measure -1", x.old(0, -1), BEYOND);
    }

    private static void promise31() {
        MeanCoats x = longs(20, 100, 100, 110);
        x.here(2, false);
        x.spring();
        due("31 by either or both", x.lived(0), 3);
        x.here(0, false);
        due("31 here or not", x.lived(0), 3);
        x.rule(1);
        due("31 by the rule that is", x.lived(0), 6);
        x.rule(2);
        due("31 most", x.lived(0), 3);
        x.rule(0);
        x.change(0, 3, 101);
        due("31 all measures, as they are now", x.lived(0), 2);
        x.change(0, 3, 102);
        due("31 less", x.lived(0), 1);
        x.change(1, 2, 105);
        due("31 nobody", x.lived(0), 0);
        due("31 spring 1", x.lived(1), BEYOND);
        due("31 spring -1", x.lived(-1), BEYOND);
        MeanCoats all = new MeanCoats();
        for (int b = 0; b < 12; b++) all.body(0);
        all.spring();
        due("31 any of twelve", all.lived(0), 4095);
    }

    private static void promise32() {
        MeanCoats x = longs(20, 100, 110, 105, 120);
        x.here(3, false);
        x.spring();
        due("32 sets", x.lived(0), 3);
        due("32 in all", x.surely(0, 0), 0);
        due("32 in any", x.surely(0, 1), 7);
        x.change(2, 1, 106);
        due("32 in all of two", x.surely(0, 0), 3);
        due("32 in any of two", x.surely(0, 1), 7);
        x.change(2, 1, 95);
        x.change(0, 1, 115);
        due("32 in all of one", x.surely(0, 0), 5);
        due("32 in any of one", x.surely(0, 1), 5);
        due("32 what 2", x.surely(0, 2), BEYOND);
        due("32 what -1", x.surely(0, -1), BEYOND);
        due("32 spring 1", x.surely(1, 0), BEYOND);
        due("32 spring -1", x.surely(-1, 0), BEYOND);
        for (int b = 0; b < 4; b++) x.change(b, 3, 200);
        due("32 there are none", x.surely(0, 0), NONE);
        due("32 none in any", x.surely(0, 1), NONE);
        due("32 none, what 2", x.surely(0, 2), BEYOND);
    }

    private static int[] slips(int z, int many) {
        int[] slips = new int[many];
        int next = z;
        for (int i = 0; i < many; i++) {
            next = next * 1103515245 + 12345;
            slips[i] = (next >>> 8) % 3 - 1;
        }
        return slips;
    }

    private static void promise33() {
        due("33 nobody", new MeanCoats().odds(1), NONE);
        due("33 nobody, 0", new MeanCoats().odds(0), BEYOND);
        MeanCoats x = longs(20, 100);
        due("33 31", x.odds(31), BEYOND);
        due("33 0", x.odds(0), BEYOND);
        due("33 z stays", x.count(5), 1);
        int[] slips = slips(77, 90);
        int same = 0;
        for (int i = 0; i < 90; i += 3) same += slips[i] == 0 && slips[i + 1] == 0 && slips[i + 2] == 0 ? 1 : 0;
        x.seed(77);
        due("33 of 30", x.odds(30), same);
        int z = 77;
        for (int i = 0; i < 90; i++) z = z * 1103515245 + 12345;
        due("33 z by 90 draws", x.count(5), z);
        MeanCoats two = longs(20, 100, 150, 100);
        two.here(1, false);
        two.rule(2);
        two.seed(-5);
        int[] both = slips(-5, 120);
        int alike = 0;
        for (int i = 0; i < 120; i += 6) {
            boolean is = true;
            for (int m = 0; m < 3; m++) is &= Math.max(both[i + m], both[i + 3 + m]) == 0;
            alike += is ? 1 : 0;
        }
        due("33 those here, by measures", two.odds(20), alike);
        due("33 they stay", two.bodyOf(0, 1), 100);
    }

    private static void promise34() {
        MeanCoats x = new MeanCoats();
        due("34 at first", x.seed(Integer.MIN_VALUE), 1);
        due("34 any int", x.seed(Integer.MAX_VALUE), Integer.MIN_VALUE);
        due("34 any int", x.seed(-1000001), Integer.MAX_VALUE);
        due("34 told", x.count(5), -1000001);
        due("34 what is no finding", x.seed(0), -1000001);
        due("34 no finding", x.status(-1), 0);
    }

    private static void promise35() {
        MeanCoats x = new MeanCoats();
        due("35 two", x.feed('e' << 8 | 'a' | 0x7a7a0000, 2), 2);
        due("35 one", x.feed('s' | 0x7a7a7a00, 1), 3);
        due("35 four, the highest first", x.feed('e' << 24 | '7' << 16 | '7' << 8 | '7', 4), 7);
        due("35 three", x.feed(' ' << 16 | ' ' << 8 | ';', 3), 10);
        due("35 0", x.feed(1, 0), BEYOND);
        due("35 5", x.feed(1, 5), BEYOND);
        due("35 -1", x.feed(1, -1), BEYOND);
        due("35 as fed", x.text(), -11);
        x.feed('e' << 8 | 'a', 2);
        x.feed('s' << 8 | 'e', 2);
        x.feed('7' << 16 | '7' << 8 | '7', 3);
        due("35 a text", x.text(), 1);
        due("35 its ease", x.ease(20), 777);
        for (int i = 1; i <= 29; i++) x.feed(-1, 4);
        due("35 119", x.feed(0, 3), 119);
        due("35 two too many", x.feed(0, 2), FULL);
        due("35 full, 5", x.feed(0, 5), BEYOND);
        due("35 the 120th", x.feed(0, 1), 120);
        due("35 one too many", x.feed(0, 1), FULL);
        due("35 count", x.count(4), 120);
    }

    private static void promise36() {
        MeanCoats x = new MeanCoats();
        x.feed(0, 3);
        due("36 had", x.wipe(), 3);
        due("36 had none", x.wipe(), 0);
        due("36 empty", x.count(4), 0);
        due("36 anew", x.feed(0, 1), 1);
    }

    private static void promise37() {
        MeanCoats x = new MeanCoats();
        due("37 items", read(x, "body 50 250 100;stretched 101 102 103 bribe 20;briber 1 1 1"), -55);
        due("37 nothing changes", x.count(0), 0);
        due("37 empty", x.count(4), 0);
        due("37 items", read(x, "body 50 250 100;stretched 101 102 103 bribe 20 pins 99 ; briber 104 105 106 pins 0"), 3);
        due("37 items", read(x, "twin 50 50 50 bribe-0;giant 51 51 51 bribe - 020;thin 52 52 52;sly053 53 53bribe-1pins2"), 4);
        dueAll("37 body", told(x, 0), 0, 50, 250, 100, 0, 0, 1, 1, 50, 250, 100);
        dueAll("37 stretched", told(x, 1), 1, 101, 102, 103, 20, 99, 1, 1, 103, 102, 103);
        dueAll("37 briber", told(x, 2), 2, 104, 105, 106, 0, 0, 1, 1, 104, 105, 106);
        dueAll("37 twin", told(x, 3), 3, 50, 50, 50, 0, 0, 1, 2, 50, 50, 50);
        dueAll("37 giant", told(x, 4), 4, 51, 51, 51, -20, 0, 1, 3, 53, 51, 51);
        dueAll("37 thin", told(x, 5), 5, 52, 52, 52, 0, 0, 1, 1, 52, 42, 52);
        dueAll("37 sly", told(x, 6), 6, 53, 53, 53, -1, 2, 1, 1, 53, 51, 53);
        due("37 towns", read(x, "  rule most ; ease 0 ; price 99 ; ease 999  "), 4);
        dueAll("37 rule, ease, price", new int[] {x.rule(0), x.ease(20), x.price(1)}, 2, 999, 99);
        due("37 rules", read(x, "rule mean;rule middle"), 2);
        due("37 the last rule", x.rule(0), 1);
        due("37 no finding", x.status(-1), 0);
        faults(x);
        thirteenth();
    }

    private static void fault(MeanCoats x, String text, int place) {
        due("37 \"" + text + "\"", read(x, text), -1 - place);
        due("37 \"" + text + "\": tape", x.count(4), 0);
    }

    private static void faults(MeanCoats x) {
        fault(x, "", 0);
        fault(x, "   ", 3);
        fault(x, ";", 0);
        fault(x, " Body 100 100 100", 1);
        fault(x, "100", 0);
        fault(x, "bodyx 100 100 100", 0);
        fault(x, "bod 100 100 100", 0);
        fault(x, "cody 100 100 100", 0);
        fault(x, "bodz 100 100 100", 0);
        fault(x, "pins 5", 0);
        fault(x, "mean", 0);
        fault(x, "body 100 100 100;", 17);
        fault(x, "body 100 100 100 ; ", 19);
        fault(x, "ease 30;;ease 31", 8);
        fault(x, "ease 30 ease 31", 8);
        fault(x, "body 49 100 100", 5);
        fault(x, "body 100 251 100", 9);
        fault(x, "body 100 100 49", 13);
        fault(x, "body 100 100", 12);
        fault(x, "body 100 100 ", 13);
        fault(x, "body 100 100 100 100", 17);
        fault(x, "body 100 -100 100", 9);
        fault(x, "body 100100 100", 5);
        fault(x, "body 100 100 100 bribe", 22);
        fault(x, "body 100 100 100 bribe -", 24);
        fault(x, "body 100 100 100 bribe 21", 23);
        fault(x, "body 100 100 100 bribe -21", 24);
        fault(x, "body 100 100 100 bribe --1", 24);
        fault(x, "body 100 100 100 bribe pins 3", 23);
        fault(x, "body 100 100 100 pins 100", 22);
        fault(x, "body 100 100 100 pins -1", 22);
        fault(x, "body 100 100 100 pins 1 bribe 1", 24);
        fault(x, "body 100 100 100 - 1", 17);
        fault(x, "rule", 4);
        fault(x, "rule 1", 5);
        fault(x, "rule meanest", 5);
        fault(x, "rule ease", 5);
        fault(x, "ease 1000", 5);
        fault(x, "ease 4294967297", 5);
        fault(x, "ease 99999999999999999999999999999999", 5);
        fault(x, "ease -1", 5);
        fault(x, "price 100", 6);
        fault(x, "price", 5);
        fault(x, "ease 3\t", 6);
        fault(x, "ease 3\u00e9", 6);
        fault(x, "ease 3;rule most;price 2;body 1", 30);
        fault(x, "ease 3;rule most;price 2:", 24);
        fault(x, ";".repeat(120), 0);
        fault(x, "ease 3;" + "-".repeat(113), 7);
        fault(x, " ".repeat(120), 120);
        fault(x, "`", 0);
        fault(x, "{", 0);
        fault(x, "ease /", 5);
        dueAll("37 as it was", new int[] {x.count(0), x.rule(0), x.ease(20), x.price(1)}, 7, 0, 20, 1);
        due("37 leading noughts", read(x, "ease 000000000000000000000000000999"), 1);
        due("37 999", x.ease(20), 999);
    }

    private static void thirteenth() {
        MeanCoats x = new MeanCoats();
        for (int b = 0; b < 10; b++) x.body(0);
        fault(x, "sly 60 60 60;twin 61 61 61; thin 62 62 62", 28);
        due("37 none of them came", x.count(0), 10);
        due("37 up to twelve", read(x, "sly 60 60 60;twin 61 61 61"), 2);
        due("37 twelve", x.count(0), 12);
        dueAll("37 the twelfth", told(x, 11), 3, 61, 61, 61, 0, 0, 1, 2, 61, 61, 61);
        fault(x, "body", 0);
        fault(x, "ease 3;body 100 100 100", 7);
        due("37 not even ease", x.ease(20), 20);
        due("37 without a body", read(x, "ease 3"), 1);
        MeanCoats long120 = new MeanCoats();
        due("37 120 bytes", read(long120, "ease 1;".repeat(16) + "price 99"), 17);
        due("37 its ease", long120.ease(0), 1);
    }

    private static void promise38() {
        MeanCoats x = longs(20, 100, 110);
        due("38 spot 0", x.hold(0, 1), 1);
        due("38 spot 9", x.hold(9, 0), 1);
        due("38 two hold", x.count(6), 2);
        due("38 nothing", x.hold(0, -1), 1);
        due("38 one holds", x.count(6), 1);
        due("38 nothing is held", x.as(0, 0), MISSING);
        due("38 spot 10", x.hold(10, 0), BEYOND);
        due("38 spot -1", x.hold(-1, 0), BEYOND);
        due("38 body 2", x.hold(3, 2), BEYOND);
        due("38 body -2", x.hold(9, -2), BEYOND);
        due("38 as it was", x.as(9, 0), 0);
    }

    private static void promise39() {
        MeanCoats x = new MeanCoats();
        for (int kind = 0; kind <= 6; kind++) {
            x.body(kind);
            x.hold(kind, kind);
        }
        int[] above = {-1, 0, 0, 0, 1, 0, 2};
        for (int spot = 0; spot <= 6; spot++) {
            for (int kind = 0; kind <= 6; kind++) {
                boolean is = kind == spot || kind == above[spot] || kind == 0;
                due("39 as " + spot + " " + kind, x.as(spot, kind), is ? spot : KIND);
            }
        }
        x.change(4, 0, 6);
        due("39 its kind now", x.as(4, 2), 4);
        due("39 its kind no more", x.as(4, 1), KIND);
        x.here(4, false);
        due("39 one that is away", x.as(4, 6), 4);
        due("39 nothing", x.as(7, 0), MISSING);
        due("39 nothing, kind 7", x.as(7, 7), BEYOND);
        due("39 kind -1", x.as(0, -1), BEYOND);
        due("39 spot 10", x.as(10, 0), BEYOND);
        due("39 spot -1", x.as(-1, 0), BEYOND);
    }

    private static void promise40() {
        MeanCoats x = new MeanCoats();
        for (int bits : new int[] {8, 16, 32}) {
            due("40 of 40", x.sheet(0, bits, 40), 40);
            due("40 its last", x.write(0, 39, 1), 1);
        }
        due("40 of 2, all 0", x.sheet(0, 32, 2), 2);
        due("40 no third", x.write(0, 2, 1), BEYOND);
        x.body(0);
        x.write(0, 0, 5);
        due("40 5", x.judge(0), 1);
        due("40 anew", x.sheet(0, 8, 1), 1);
        due("40 all 0 anew", x.judge(0), 0);
        due("40 none of 0", x.sheet(3, 8, 0), 0);
        due("40 it is there", x.load(3), 0);
        due("40 missing", x.sheet(0, 0, 5), 0);
        due("40 it is missing", x.load(0), MISSING);
        due("40 missing again", x.sheet(0, 0, 0), 0);
        due("40 sheet 4", x.sheet(4, 8, 1), BEYOND);
        due("40 sheet -1", x.sheet(-1, 8, 1), BEYOND);
        for (int bits : new int[] {-8, 1, 7, 9, 15, 17, 24, 31, 33, 64}) due("40 bits " + bits, x.sheet(0, bits, -1), BEYOND);
        due("40 n -1", x.sheet(3, 8, -1), SIZE);
        due("40 bits 0, n -1", x.sheet(3, 0, -1), SIZE);
        due("40 sheet 4, n -1", x.sheet(4, 0, -1), BEYOND);
        due("40 n 41", x.sheet(3, 16, 41), BEYOND);
        due("40 bits 0, n 41", x.sheet(3, 0, 41), BEYOND);
        due("40 it stays", x.load(3), 0);
    }

    private static void promise41() {
        MeanCoats x = longs(20, 250, 250);
        man(x, 0, 50, 50, 50);
        man(x, 0, 50, 50, 50);
        x.here(2, false);
        x.here(3, false);
        due("41 missing", x.write(1, 0, 5), MISSING);
        due("41 missing, no such number", x.write(1, -1, 5), MISSING);
        due("41 sheet 4", x.write(4, 0, 5), BEYOND);
        due("41 sheet -1", x.write(-1, 0, 5), BEYOND);
        due("41 costs", x.cost(2), 300);
        x.sheet(1, 16, 4);
        x.write(1, 2, 300 + 65536 * 3);
        x.write(1, 3, 300 - 65536);
        due("41 the lowest 16 bits", x.judge(1), 0);
        x.write(1, 3, 300 + 32768);
        due("41 not those", x.judge(1), 4);
        x.sheet(1, 32, 4);
        x.write(1, 2, 300);
        due("41 32 bits", x.write(1, 3, 300 + 65536), 1);
        due("41 all of them", x.judge(1), 4);
        x.write(1, 3, 300);
        due("41 right", x.judge(1), 0);
        x.ease(0);
        x.change(2, 5, 99);
        x.change(2, 1, 100);
        x.change(3, 5, 99);
        x.change(3, 1, 121);
        dueAll("41 costs", new int[] {x.cost(2), x.cost(3)}, 151, 130);
        x.sheet(1, 8, 4);
        x.write(1, 2, 151);
        due("41 with their sign", x.judge(1), 3);
        x.change(2, 1, 127);
        x.change(2, 1, 128);
        x.change(2, 2, 99);
        x.change(2, 5, 99);
        due("41 cost", x.cost(2), 74);
        x.write(1, 2, 74 + 256);
        due("41 the lowest 8 bits", x.judge(1), 4);
        due("41 number 4", x.write(1, 4, 5), BEYOND);
        due("41 number -1", x.write(1, -1, 5), BEYOND);
        due("41 the first", x.write(1, 0, 255), 1);
        due("41 255 is -1", x.judge(1), 1);
    }

    /** Tells what stands in a sheet by loading three numbers at a time. */
    private static int[] numbers(MeanCoats x, int s, int n) {
        int[] told = new int[n];
        for (int i = 0; i < n; i++) {
            x.sheet(3, 32, 3);
            x.write(3, 1, 100);
            x.write(3, 2, 100);
            due("42 one of them", x.copy(s, i, 3, 0, 1), 1);
            x.load(3);
            told[i] = x.bodyOf(0, 1);
        }
        return told;
    }

    private static MeanCoats withSheets() {
        MeanCoats x = longs(20, 100);
        x.sheet(0, 32, 6);
        x.sheet(1, 32, 4);
        for (int i = 0; i < 6; i++) x.write(0, i, 60 + i);
        for (int i = 0; i < 4; i++) x.write(1, i, 80 + i);
        return x;
    }

    private static void promise42() {
        MeanCoats x = withSheets();
        due("42 two", x.copy(0, 4, 1, 1, 2), 2);
        dueAll("42 there", numbers(x, 1, 4), 80, 64, 65, 83);
        due("42 up in itself", x.copy(0, 0, 0, 1, 5), 5);
        dueAll("42 as they were", numbers(x, 0, 6), 60, 60, 61, 62, 63, 64);
        x = withSheets();
        due("42 down in itself", x.copy(0, 1, 0, 0, 5), 5);
        dueAll("42 as they were", numbers(x, 0, 6), 61, 62, 63, 64, 65, 65);
        x = withSheets();
        due("42 none", x.copy(0, 6, 1, 4, 0), 0);
        due("42 none, beyond", x.copy(0, 7, 1, 0, 0), BEYOND);
        due("42 none, beyond there", x.copy(0, 0, 1, 5, 0), BEYOND);
        due("42 has not so many", x.copy(0, 3, 1, 0, 4), BEYOND);
        due("42 there not so many", x.copy(0, 0, 1, 1, 4), BEYOND);
        due("42 all there is", x.copy(0, 2, 1, 0, 4), 4);
        due("42 from -1", x.copy(0, -1, 1, 0, 1), BEYOND);
        due("42 to -1", x.copy(0, 0, 1, -1, 1), BEYOND);
        due("42 n -1", x.copy(0, 1, 1, 1, -1), BEYOND);
        due("42 from the greatest", x.copy(0, Integer.MAX_VALUE, 1, 0, 1), BEYOND);
        due("42 n the greatest", x.copy(0, 1, 1, 1, Integer.MAX_VALUE), BEYOND);
        due("42 missing", x.copy(0, 0, 2, 0, 1), MISSING);
        due("42 missing, from -1", x.copy(2, -1, 0, 0, 1), MISSING);
        due("42 sheet 4", x.copy(4, 0, 2, 0, 1), BEYOND);
        due("42 sheet -1", x.copy(-1, 0, 2, 0, 1), BEYOND);
        due("42 to sheet 4", x.copy(2, 0, 4, 0, 1), BEYOND);
        due("42 to sheet -1", x.copy(2, 0, -1, 0, 1), BEYOND);
        x.sheet(2, 16, 4);
        due("42 other bits", x.copy(0, 0, 2, 0, 1), KIND);
        due("42 other bits, from -1", x.copy(2, -1, 0, 0, 1), KIND);
        dueAll("42 there", numbers(x, 1, 4), 62, 63, 64, 65);
    }

    private static void promise43() {
        MeanCoats x = longs(20, 100, 100, 100);
        due("43 missing", x.load(0), MISSING);
        due("43 sheet 4", x.load(4), BEYOND);
        due("43 sheet -1", x.load(-1), BEYOND);
        x.here(1, false);
        x.sheet(0, 16, 12);
        for (int i = 0; i < 12; i++) x.write(0, i, 239 + i);
        due("43 bodies that there are", x.load(0), 3);
        dueAll("43 those of 1", new int[] {x.bodyOf(1, 1), x.bodyOf(1, 2), x.bodyOf(1, 3)}, 242, 243, 244);
        for (int i = 0; i < 9; i++) x.write(0, i, 50 + i);
        x.write(0, 5, 49);
        due("43 49", x.load(0), 1);
        dueAll("43 of 0", new int[] {x.bodyOf(0, 1), x.bodyOf(0, 2), x.bodyOf(0, 3)}, 50, 51, 52);
        dueAll("43 none of 1", new int[] {x.bodyOf(1, 1), x.bodyOf(1, 2), x.bodyOf(1, 3)}, 242, 243, 244);
        for (int i = 3; i < 6; i++) {
            x.write(0, 3, 250);
            x.write(0, 4, 250);
            x.write(0, 5, 250);
            x.write(0, i, 251);
            due("43 251", x.load(0), 1);
            x.write(0, i, 49);
            due("43 49", x.load(0), 1);
        }
        x.sheet(1, 8, 8);
        for (int i = 0; i < 8; i++) x.write(1, i, 127);
        due("43 one isn't whole", x.load(1), 2);
        x.write(1, 0, 200);
        due("43 with its sign", x.load(1), 0);
        x.sheet(1, 8, 0);
        due("43 of none", x.load(1), 0);
        for (int b = 3; b < 12; b++) x.body(0);
        x.sheet(1, 16, 40);
        for (int i = 0; i < 40; i++) x.write(1, i, 100);
        due("43 all twelve", x.load(1), 12);
    }

    private static void promise44() {
        MeanCoats x = longs(20, 100, 110, 130);
        x.here(2, false);
        due("44 missing", x.judge(0), MISSING);
        due("44 sheet 4", x.judge(4), BEYOND);
        due("44 sheet -1", x.judge(-1), BEYOND);
        x.sheet(0, 32, 3);
        x.write(0, 0, 5);
        x.write(0, 1, 5);
        due("44 two", x.judge(0), 3);
        x.write(0, 2, 25);
        due("44 all", x.judge(0), 0);
        x.write(0, 0, 6);
        due("44 none", x.judge(0), 1);
        x.sheet(0, 32, 4);
        x.write(0, 0, 5);
        x.write(0, 1, 5);
        x.write(0, 2, 25);
        due("44 too many", x.judge(0), 4);
        x.sheet(0, 32, 1);
        x.write(0, 0, 5);
        due("44 too few", x.judge(0), 2);
        x.here(0, false);
        x.here(1, false);
        due("44 no coat", x.judge(0), NONE);
        due("44 no coat, missing", x.judge(1), MISSING);
        MeanCoats all = new MeanCoats();
        for (int b = 0; b < 12; b++) all.body(0);
        all.sheet(0, 8, 12);
        due("44 all twelve", all.judge(0), 0);
        all.sheet(0, 8, 40);
        due("44 more than twelve", all.judge(0), 13);
    }

    private static void promise45() {
        MeanCoats x = longs(20, 100, 110);
        due("45 kept", x.image(), 1);
        x.change(0, 1, 90);
        due("45 kept anew", x.image(), 1);
        x.change(0, 1, 80);
        due("45 undo", x.undo(), 2);
        due("45 the latest", x.bodyOf(0, 1), 90);
        due("45 nobody is kept too", new MeanCoats().image(), 1);
    }

    private static void promise46() {
        MeanCoats x = new MeanCoats();
        due("46 nothing kept", x.undo(), NONE);
        man(x, 2, 101, 102, 103);
        x.change(0, 4, 4);
        x.change(0, 5, 5);
        man(x, 6, 104, 105, 106);
        x.here(1, false);
        x.rule(1);
        x.ease(30);
        x.price(9);
        x.seed(55);
        x.hold(3, 1);
        x.spring();
        x.sheet(0, 8, 3);
        x.image();
        man(x, 4, 50, 50, 50);
        x.change(0, 0, 3);
        for (int what = 1; what <= 3; what++) x.change(0, what, 200);
        x.change(0, 4, -4);
        x.change(0, 5, 55);
        x.here(1, true);
        x.here(0, false);
        x.rule(2);
        x.ease(40);
        x.price(8);
        x.seed(66);
        x.hold(3, -1);
        x.hold(4, 0);
        x.spring();
        x.feed(0, 3);
        x.sheet(0, 0, 0);
        for (int i = 0; i < 2; i++) {
            due("46 bodies", x.undo(), 2);
            dueAll("46 counts", counts(x), 2, 1, 1, 1, 3, 55, 1);
            dueAll("46 body 0", told(x, 0), 2, 101, 102, 103, 4, 5, 1, 1, 101, 106, 103);
            dueAll("46 body 1", told(x, 1), 6, 104, 105, 106, 0, 0, 0, 1, 104, 105, 106);
            due("46 spot", x.as(3, 2), 1);
            dueAll("46 spring", new int[] {x.old(0, 0), x.old(0, 1), x.old(0, 2)}, 101, 106, 103);
            due("46 sheets are not kept", x.load(0), MISSING);
            dueAll("46 rule, ease, price", new int[] {x.rule(0), x.ease(0), x.price(0)}, 1, 30, 9);
            x.body(0);
        }
    }

    private static void promise47() {
        MeanCoats x = new MeanCoats();
        due("47 nothing", x.tear(), 0);
        x.image();
        x.image();
        due("47 something", x.tear(), 1);
        due("47 not twice", x.tear(), 0);
        due("47 nothing to undo", x.undo(), NONE);
        x.body(0);
        x.image();
        due("47 kept again", x.undo(), 1);
    }

    private static void promise48() {
        MeanCoats x = longs(20, 100, 110, 200);
        x.here(2, false);
        x.change(0, 1, 150);
        x.change(0, 5, 1);
        x.ease(19);
        x.spring();
        x.spring();
        x.feed(0, 4);
        x.feed(0, 3);
        x.seed(-3);
        x.hold(0, 0);
        x.hold(5, 0);
        x.hold(9, 1);
        dueAll("48 counts", counts(x), 3, 2, 1, 2, 7, -3, 3);
        due("48 7", x.count(7), BEYOND);
        due("48 -1", x.count(-1), BEYOND);
        x.here(0, false);
        x.here(1, false);
        due("48 nobody fits", x.count(2), 0);
    }

    private static void promise49() {
        MeanCoats x = new MeanCoats();
        for (int i = 0; i < 12; i++) x.body(0);
        x.body(7);
        x.body(0);
        x.body(0);
        x.hold(0, 0);
        for (int i = 0; i < 3; i++) x.as(0, 2);
        for (int i = 0; i < 4; i++) x.undo();
        for (int i = 0; i < 5; i++) x.bribe(0);
        for (int i = 0; i < 6; i++) x.as(1, 0);
        for (int i = 0; i < 7; i++) x.sheet(0, 8, -1);
        dueAll("49 statuses", statuses(x), 28, 1, 2, 3, 4, 5, 6, 7);
        due("49 7", x.status(7), BEYOND);
        due("49 counted from then on", x.status(0), 2);
        due("49 -2", x.status(-2), BEYOND);
        due("49 all", x.status(-1), 30);
        x.image();
        x.body(7);
        x.undo();
        due("49 undo takes none back", x.status(0), 4);
        read(x, "fault");
        due("49 a fault is no finding", x.status(-1), 31);
        x.seed(-1000001);
        x.seed(1);
        due("49 z is no finding", x.status(-1), 31);
    }

    /** Terms: an act that answers a finding changes nothing but status(). */
    private static void findingsChangeNothing() {
        MeanCoats x = wides(2, 90, 2, 84, 6, 94);
        int[] before = told(x, 0);
        x.settles();
        x.rounds(0);
        x.rounds(21);
        x.famine(0);
        x.change(0, 4, 21);
        x.odds(31);
        x.feed(0, 9);
        dueAll("findings", told(x, 0), before);
        dueAll("findings", counts(x), 3, 3, 3, 0, 0, 1, 0);
        due("findings", x.status(-1), 7);
    }

    public static void main(String[] args) {
        promise1(); promise2(); promise3(); promise4(); promise5(); promise6(); promise7(); promise8(); promise9();
        promise10(); promise11(); promise12(); promise13(); promise14(); promise15(); promise16(); promise17();
        promise18(); promise19(); promise20(); promise21(); promise22(); promise23(); promise24(); promise25();
        promise26(); promise27(); promise28(); promise29(); promise30(); promise31(); promise32(); promise33();
        promise34(); promise35(); promise36(); promise37(); promise38(); promise39(); promise40(); promise41();
        promise42(); promise43(); promise44(); promise45(); promise46(); promise47(); promise48(); promise49();
        findingsChangeNothing();
        System.out.println(checked + " answers, " + wrong + " not as due");
        if (wrong != 0) System.exit(1);
    }
}
