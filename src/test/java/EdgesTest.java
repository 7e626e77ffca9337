import java.util.List;

/** The smallest and the greatest that each act takes, nothing there, full, and what wraps around or is cut. */
public final class EdgesTest {
    private static final int MIN = Integer.MIN_VALUE;
    private static final int MAX = Integer.MAX_VALUE;

    private static void due(String what, long got, long want) {
        Towns.due(what, got, want);
    }

    private static void noFindings(String what, MeanCoats x) {
        due(what + ": no finding", x.status(-1), 0);
    }

    /** Bodies of kinds that are unlike in WIDE alone: kind, wide, kind, wide .. */
    private static MeanCoats wides(int... kindsAndWides) {
        MeanCoats x = new MeanCoats();
        for (int i = 0; i < kindsAndWides.length; i += 2) {
            Towns.man(x, kindsAndWides[i], 100, kindsAndWides[i + 1], 100);
        }
        return x;
    }

    // ---- bodies

    private static void valuesTaken() {
        int[][] bounds = {{0, 6}, {50, 250}, {50, 250}, {50, 250}, {-20, 20}, {0, 99}};
        int[] atFirst = {0, 100, 100, 100, 0, 0};
        for (int body : new int[] {0, 11}) {
            MeanCoats x = new MeanCoats();
            for (int b = 0; b < 12; b++) x.body(0);
            for (int what = 0; what <= 5; what++) {
                int was = atFirst[what];
                for (int v : new int[] {bounds[what][1], bounds[what][0], bounds[what][1]}) {
                    due("4 what " + what + " to " + v, x.change(body, what, v), was);
                    due("4 it is " + v, x.bodyOf(body, what), v);
                    was = v;
                }
                x.change(body, what, atFirst[what]);
            }
            due("5 away", x.here(body, false), 1);
            due("5 those here", x.count(1), 11);
            due("5 back", x.here(body, true), 0);
            noFindings("values of body " + body, x);
        }
        MeanCoats x = new MeanCoats();
        int[] rules = {x.rule(2), x.rule(0), x.rule(1), x.rule(0)};
        int[] eases = {x.ease(999), x.ease(0), x.ease(20)};
        int[] prices = {x.price(99), x.price(0), x.price(1)};
        Towns.dueAll("6", List.of(rules[0], rules[1], rules[2], rules[3]), List.of(0, 2, 0, 1));
        Towns.dueAll("7", List.of(eases[0], eases[1], eases[2]), List.of(20, 999, 0));
        Towns.dueAll("8", List.of(prices[0], prices[1], prices[2]), List.of(1, 99, 0));
        noFindings("rule, ease, price", x);
    }

    /** What is MEASURED at the ends of all measures and bribes goes beyond 50 and 250. */
    private static void measuredBeyond() {
        int[][] least = {{50, 50, 50}, {52, 50, 50}, {50, 30, 50}, {50, 50, 50}, {52, 50, 50}, {50, 40, 50}, {50, 10, 50}};
        int[][] most = {{250, 250, 250}, {252, 250, 250}, {250, 270, 250}, {250, 250, 250}, {252, 250, 250},
            {250, 240, 250}, {250, 290, 250}};
        int[] times = {1, 1, 1, 2, 3, 1, 1};
        for (int kind = 0; kind <= 6; kind++) {
            MeanCoats x = new MeanCoats();
            Towns.man(x, kind, 50, 50, 50);
            x.change(0, 4, -20);
            for (int m = 0; m <= 2; m++) {
                due("3 least of " + kind, x.bodyOf(0, 8 + m), least[kind][m]);
                due("10 alone", x.coat(m), least[kind][m]);
            }
            for (int m = 0; m <= 2; m++) x.change(0, 1 + m, 250);
            x.change(0, 4, 20);
            for (int m = 0; m <= 2; m++) {
                due("3 most of " + kind, x.bodyOf(0, 8 + m), most[kind][m]);
                due("11 above, alone", x.mean(m, 0), most[kind][m]);
                due("11 below, alone", x.mean(m, 1), 1);
            }
            due("3 counts of " + kind, x.bodyOf(0, 7), times[kind]);
            noFindings("measured " + kind, x);
        }
    }

    private static void famines() {
        MeanCoats x = wides(0, 51, 0, 52, 0, 50, 0, 250, 0, 51);
        x.here(4, false);
        due("9 of 1: 51 comes to 50, 52 to 51", x.famine(1), 2);
        due("9 of 51", x.bodyOf(0, 2), 50);
        due("9 of 52", x.bodyOf(1, 2), 51);
        due("9 at 50 it stays", x.bodyOf(2, 2), 50);
        due("9 of 250", x.bodyOf(3, 2), 249);
        due("9 away", x.bodyOf(4, 2), 51);
        x.change(0, 2, 100);
        x.change(1, 2, 101);
        x.change(2, 2, 99);
        due("9 of 50", x.famine(50), 2);
        due("9 100 comes to 50", x.bodyOf(0, 2), 50);
        due("9 101 to 51", x.bodyOf(1, 2), 51);
        due("9 99 to 50", x.bodyOf(2, 2), 50);
        MeanCoats bribed = wides(6, 60);
        bribed.change(0, 4, -20);
        due("9 as it is, not as it is measured", bribed.famine(9), 0);
        due("9 as it is", bribed.bodyOf(0, 2), 51);
        due("9 none at 50 who is away", wides(0, 100).famine(49), 0);
        noFindings("9", x);
    }

    // ---- coats

    private static void cutQuotients() {
        MeanCoats x = wides(0, 100, 0, 101);
        due("10 a half is cut", x.coat(1), 100);
        x.change(0, 2, 101);
        x.body(0);
        x.change(2, 2, 99);
        due("10 a third is cut", x.coat(1), 100);
        x.change(2, 2, 98);
        due("10 none is cut", x.coat(1), 100);
        x.change(2, 2, 97);
        due("10 two thirds are cut", x.coat(1), 99);
        MeanCoats pair = wides(0, 100, 0, 101, 0, 200);
        pair.rule(2);
        due("18 half, cut", pair.marry(0, 1), 100);
        pair.change(0, 2, 250);
        pair.change(1, 2, 249);
        pair.here(0, false);
        pair.here(1, false);
        due("18 half, cut, above the coat", pair.marry(0, 1), 49);
        pair.change(0, 2, 101);
        pair.change(1, 2, 103);
        due("18 half of the sum, not of each", pair.marry(0, 1), 98);
        int[] middles = {7, 7, 8, 8, 9, 9, 10, 10, 11, 11, 12, 12};
        MeanCoats row = new MeanCoats();
        row.rule(1);
        for (int b = 0; b < 12; b++) {
            // Falling widths, so that the places of the row aren't those of the numbers.
            row.body(0);
            for (int i = 0; i <= b; i++) row.change(i, 2, 57 + b - i);
            due("10 middle of " + (b + 1), row.coat(1), 50 + middles[b]);
        }
        MeanCoats counted = wides(4, 60, 3, 70, 0, 80);
        counted.rule(1);
        due("10 three of six", counted.coat(1), 60);
        counted.body(0);
        counted.change(3, 2, 50);
        due("10 the fourth of seven", counted.coat(1), 60);
        counted.body(0);
        counted.body(0);
        due("10 the fifth of nine", counted.coat(1), 70);
    }

    private static void lowestTerms() {
        MeanCoats x = wides(3, 100, 0, 100);
        due("11 all alike: above", x.mean(1, 0), 100);
        due("11 all alike: below", x.mean(1, 1), 1);
        MeanCoats giants = new MeanCoats();
        for (int b = 0; b < 12; b++) Towns.man(giants, 4, 250, 250, 250);
        due("11 the most above", giants.mean(0, 0), 252);
        giants.change(0, 3, 249);
        due("11 by twelfths: above", giants.mean(2, 0), 2999);
        due("11 by twelfths: below", giants.mean(2, 1), 12);
        giants.change(0, 0, 0);
        due("11 by 34: above", giants.mean(2, 0), 8499);
        due("11 by 34: below", giants.mean(2, 1), 34);
        due("10 of the same", giants.coat(2), 249);
    }

    /** COST at EASE, at 0, and by as many PINS as can be. */
    private static void fitEdges() {
        MeanCoats x = wides(0, 100, 0, 140);
        x.rule(2);
        x.ease(39);
        due("13 one above ease", x.fits(), 2);
        due("16 one pin", x.pins(0), 1);
        x.ease(40);
        due("13 at ease", x.fits(), 3);
        due("16 no pin", x.pins(0), 0);
        x.ease(0);
        x.change(0, 5, 40);
        due("12 as many pins as it takes", x.cost(0), 0);
        x.change(0, 5, 99);
        due("12 more of them", x.cost(0), 0);
        due("15 fines", x.fines(), 99);
        due("13 fits", x.fits(), 3);
        due("22 no ease is needed", x.easeFor(), 0);
        x.change(0, 2, 50);
        x.change(1, 2, 149);
        due("16 all 99", x.pins(0), 99);
        x.change(1, 2, 150);
        due("12 one beyond", x.cost(0), 1);
        due("16 99 aren't enough", x.pins(0), Towns.NONE);
        x.ease(1);
        due("16 99 and an inch", x.pins(0), 99);
        MeanCoats rich = new MeanCoats();
        for (int b = 0; b < 12; b++) {
            rich.body(0);
            rich.change(b, 5, 99);
        }
        rich.price(99);
        due("15 the most", rich.fines(), 12 * 99 * 99);
        for (int b = 0; b < 12; b++) rich.here(b, false);
        due("15 nobody's", rich.fines(), 0);
    }

    /** COUNTS cut THE COAT; elsewhere a GIANT is one BODY: three bodies' worth of fits would do otherwise here. */
    private static void bodiesNotCounts() {
        MeanCoats x = wides(4, 50, 0, 100, 0, 100, 0, 250);
        x.ease(2);
        due("10 by counts, long", x.coat(0), 101);
        due("10 by counts, wide", x.coat(1), 100);
        due("13 fits", x.fits(), 2 + 4);
        due("48 those here", x.count(1), 4);
        due("48 those that fit", x.count(2), 2);
        due("14 costs", x.costs(), 51 + 1 + 1 + 151);
        due("21 two by the mean, the giant by the middle", x.best(), 0);
        due("20 two fit, else the giant alone", x.send(12), 0);
        due("24 so that two fit, not the giant alone", x.sized(0, 1), 50);
        x.rule(1);
        due("48 the giant fits", x.count(2), 1);
        x.change(0, 5, 7);
        due("15 its pins once", x.fines(), 7);
        due("9 the giant once", x.famine(50), 3);
    }

    private static void worstByCost() {
        MeanCoats x = wides(0, 100, 0, 120, 0, 200);
        due("17 the farthest", x.worst(), 2);
        x.change(2, 5, 19);
        due("17 41 against 40", x.worst(), 2);
        x.change(2, 5, 20);
        due("17 40 against 40: the first", x.worst(), 0);
        x.change(2, 5, 99);
        due("17 by cost, not by how far", x.worst(), 0);
        x.here(0, false);
        x.here(1, false);
        due("17 the last, at 0", x.worst(), 2);
    }

    /** Of those HERE alone, never itself, as they are, the half being cut. */
    private static void brides() {
        MeanCoats x = wides(0, 100, 0, 100, 0, 108, 0, 90);
        x.rule(1);
        x.ease(0);
        due("10 the coat", x.coat(1), 100);
        due("19 who is just as the coat", x.bride(0), 1);
        x.here(1, false);
        due("19 not one that is away", x.bride(0), 2);
        due("18 of that one", x.marry(0, 2), 4);
        due("18 not of this one", x.marry(0, 3), 5);
        due("19 one that is away itself", x.bride(1), 0);
        due("19 the farther off, the nearer together", x.bride(2), 3);
        x.change(2, 5, 99);
        x.change(3, 5, 99);
        due("19 whatever pins", x.bride(0), 2);
        MeanCoats half = wides(0, 100, 0, 101, 0, 99);
        half.rule(1);
        due("19 cut: both halves are as near", half.bride(0), 1);
        half.change(2, 2, 98);
        due("18 cut to 100", half.marry(0, 1), 0);
        due("18 cut to 99", half.marry(0, 2), 1);
        MeanCoats thin = wides(0, 100, 5, 104, 0, 106);
        thin.rule(1);
        due("10 the coat, as measured", thin.coat(1), 100);
        due("19 as they are, not as they are measured", thin.bride(0), 1);
        thin.change(1, 2, 109);
        due("10 the coat, as measured", thin.coat(1), 100);
        due("19 as they are, not as they are measured", thin.bride(0), 2);
        due("18 as they are", thin.marry(0, 1), 4);
    }

    // ---- whom to send away

    private static void sending() {
        MeanCoats x = new MeanCoats();
        for (int b = 0; b < 12; b++) Towns.man(x, 0, 50 + 15 * b, 100, 100);
        x.rule(2);
        x.ease(0);
        due("20 none", x.send(0), 0);
        due("20 the last alone fits", x.send(12), 0);
        x.ease(15);
        x.change(11, 1, 250);
        due("20 one", x.send(1), 1 << 11);
        x.change(10, 1, 235);
        x.change(11, 1, 50);
        x.change(9, 1, 219);
        x.change(8, 1, 219);
        x.change(7, 1, 219);
        due("20 one is fewer", x.send(12), 1 << 10);
        x.here(10, false);
        due("20 of those here", x.send(12), 0);
        MeanCoats alone = wides(5, 100);
        alone.ease(9);
        due("20 to send the only one is of no use", alone.send(12), 0);
        MeanCoats pair = wides(5, 100, 5, 110);
        // No other two of them are 10 apart, so these two must be alone for the coat to fit one.
        for (int b = 2; b < 12; b++) Towns.man(pair, 5, 100, 107 + 12 * b, 100);
        pair.rule(2);
        pair.ease(0);
        due("20 nine are too few", pair.send(9), 0);
        due("20 ten", pair.send(10), 0xFFC);
        due("20 more are of no use", pair.send(12), 0xFFC);
        noFindings("20 of a pair", pair);
        noFindings("20", x);
    }

    private static void swaying() {
        int[] byRule = {200, 200, 200};
        for (int rule = 0; rule <= 2; rule++) {
            for (int kind = 0; kind <= 6; kind++) {
                MeanCoats x = wides(kind, 100);
                x.rule(rule);
                for (int m = 0; m <= 2; m++) due("23 alone " + kind + " " + m, x.sways(0, m), byRule[rule]);
            }
        }
        MeanCoats x = wides(0, 50, 0, 250, 0, 150);
        x.rule(1);
        due("23 between the ends", x.sways(2, 1), 200);
        due("23 above the middle", x.sways(1, 1), 100);
        x.rule(2);
        due("23 below the most", x.sways(0, 1), 0);
        due("23 the most", x.sways(1, 1), 100);
        x.rule(0);
        due("23 a third of 200, cut at both ends", x.sways(0, 1), (250 + 400) / 3 - (50 + 400) / 3);
        MeanCoats sly = wides(6, 100, 0, 250);
        sly.change(0, 4, 20);
        sly.rule(2);
        due("23 measured up to 290", sly.sways(0, 1), 40);
        due("23 it stays", sly.bodyOf(0, 2), 100);
    }

    private static void sizing() {
        MeanCoats x = wides(0, 100, 0, 50);
        x.ease(0);
        due("24 the least inches", x.sized(0, 1), 50);
        x.change(1, 2, 250);
        due("24 the most inches", x.sized(0, 1), 250);
        x.change(1, 2, 249);
        due("24 just as the other", x.sized(0, 1), 249);
        due("24 another measure", x.sized(0, 0), 50);
        due("24 it stays", x.bodyOf(0, 2), 100);
        int[][] byEaseAndRule = {{18, 0, 86}, {18, 1, 102}, {20, 1, 80}, {20, 2, 100}};
        for (int[] row : byEaseAndRule) {
            MeanCoats three = wides(0, 150, 0, 100, 0, 120);
            three.ease(row[0]);
            three.rule(row[1]);
            due("24 by ease " + row[0] + " and rule " + row[1], three.sized(0, 1), row[2]);
        }
        for (int kind = 0; kind <= 6; kind++) {
            MeanCoats of = wides(kind, 120, 0, 100);
            of.change(0, 4, 9);
            for (int m = 0; m <= 2; m++) {
                of.sized(0, m);
                of.sways(0, m);
                due("24 and 23: it stays as it is", of.bodyOf(0, 1 + m), m == 1 ? 120 : 100);
            }
        }
        MeanCoats thin = wides(5, 100, 0, 100);
        thin.ease(0);
        thin.here(1, false);
        due("24 by none can it fit: the least", thin.sized(0, 1), 50);
    }

    // ---- bribes

    private static void bribing() {
        MeanCoats down = wides(2, 101, 0, 200);
        due("25 as little as can be", down.bribe(0), -20);
        MeanCoats up = wides(2, 200, 0, 101);
        due("25 as much as can be", up.bribe(0), 19);
        up.change(1, 2, 100);
        due("25 as much as can be", up.bribe(0), 20);
        up.rounds(1);
        due("27 it takes it", up.bodyOf(0, 4), 20);
        due("26 then it is settled", up.settled(), 1);
        MeanCoats none = wides(2, 100, 0, 100);
        none.change(0, 4, 20);
        due("25 nearest to 0", none.bribe(0), 0);
        due("26 it would have less", none.settled(), 0);
        none.change(0, 4, 1);
        due("26 cut: as good as 0", none.settled(), 1);
        due("28 so none are needed", none.settles(), 0);
        due("27 but a round takes the nearest", none.rounds(1), 1);
        due("25 once there", none.bodyOf(0, 4), 0);
        none.change(0, 4, -1);
        due("26 -1 isn't as good", none.settled(), 0);
        none.change(0, 4, 20);
        none.rule(1);
        due("26 the middle is the other's", none.settled(), 1);
        none.change(0, 4, -20);
        due("26 the middle is its own", none.settled(), 0);
        due("27 one", none.rounds(20), 1);
        due("27 none of the second 20", none.rounds(20), 0);
        MeanCoats pinned = wides(2, 100, 0, 140);
        pinned.change(0, 5, 99);
        pinned.change(0, 4, 17);
        due("25 pins pay all: 0", pinned.bribe(0), 0);
        due("26 pins pay all: settled", pinned.settled(), 1);
    }

    /** A round by rising numbers; only of those who are HERE; what it was at first is when the call began. */
    private static void roundsByNumbers() {
        MeanCoats x = wides(2, 81, 2, 80);
        x.here(1, false);
        x.change(1, 4, 9);
        due("27 of those here", x.rounds(20), 0);
        due("27 away", x.bodyOf(1, 4), 9);
        x.change(0, 4, 5);
        due("27 alone: 0 is best", x.rounds(1), 1);
        x.change(0, 4, 0);
        due("27 as it was", x.rounds(1), 0);
        MeanCoats goesRound = wides(2, 90, 2, 84, 6, 94);
        int period = 0;
        goesRound.rounds(20);
        while (period < 20) {
            period++;
            if (goesRound.rounds(period) == 0) break;
        }
        due("27 it goes round", period < 20 ? 1 : 0, 1);
        due("28 never", goesRound.settles(), Towns.NONE);
    }

    // ---- springs

    private static void springs() {
        MeanCoats x = new MeanCoats();
        for (int b = 0; b < 12; b++) Towns.man(x, 6, 250, 250, 250);
        x.rule(2);
        for (int b = 0; b < 12; b++) x.change(b, 4, 20);
        for (int i = 1; i <= 20; i++) due("29 kept", x.spring(), i);
        due("29 the 21st", x.spring(), Towns.FULL);
        for (int i : new int[] {0, 19}) {
            due("30 long", x.old(i, 0), 250);
            due("30 as it was measured", x.old(i, 1), 290);
            due("30 arm", x.old(i, 2), 250);
            due("31 all sets but that of none", x.lived(i), 4095);
            due("32 in all", x.surely(i, 0), 0);
            due("32 in any", x.surely(i, 1), 4095);
        }
        for (int b = 0; b < 12; b++) x.here(b, false);
        due("31 sets of those who are away", x.lived(19), 4095);
        for (int b = 0; b < 11; b++) x.change(b, 4, 19);
        due("31 all with the last", x.lived(0), 2048);
        due("32 the last is in all", x.surely(0, 0), 1 << 11);
        for (int b = 0; b < 11; b++) x.change(b, 1, 249);
        x.change(11, 1, 249);
        due("31 none", x.lived(0), 0);
        due("31 no finding", x.status(-1), 1);
    }

    /** THE COAT may be as far off as what is MEASURED. */
    private static void springsBeyond() {
        MeanCoats x = wides(6, 50);
        x.change(0, 4, -20);
        x.spring();
        due("30 below 50", x.old(0, 1), 10);
        MeanCoats giant = new MeanCoats();
        Towns.man(giant, 4, 250, 250, 250);
        giant.spring();
        due("30 above 250", giant.old(0, 0), 252);
        due("31 by itself", giant.lived(0), 1);
        giant.change(0, 0, 0);
        due("31 as it is now", giant.lived(0), 0);
        due("30 as it was then", giant.old(0, 0), 252);
    }

    /** Of two bodies each of the three sets alone, told by what is in it. */
    private static void smallestSets() {
        for (int set = 1; set <= 3; set++) {
            MeanCoats x = wides(0, 100, 0, 140);
            x.here(0, (set & 1) != 0);
            x.here(1, (set & 2) != 0);
            x.spring();
            due("31 one set", x.lived(0), 1);
            due("32 in all of " + set, x.surely(0, 0), set);
            due("32 in any of " + set, x.surely(0, 1), set);
        }
        MeanCoats one = wides(0, 100);
        one.spring();
        due("31 the only set of one", one.lived(0), 1);
        due("32 the only set of one", one.surely(0, 0), 1);
        one.change(0, 2, 101);
        due("31 not that of none", one.lived(0), 0);
    }

    private static int stepped(int z, int draws) {
        int next = z;
        for (int i = 0; i < draws; i++) next = next * 1103515245 + 12345;
        return next;
    }

    /** How often the slips of one body alone are all 0: told by longs, which never wrap around here. */
    private static int sameOf(int z, int times) {
        long next = z & 0xFFFFFFFFL;
        int same = 0;
        for (int i = 0; i < times; i++) {
            boolean is = true;
            for (int m = 0; m < 3; m++) {
                next = next * 1103515245L + 12345L & 0xFFFFFFFFL;
                is &= next / 256 % 3 == 1;
            }
            same += is ? 1 : 0;
        }
        return same;
    }

    private static void draws() {
        for (int z : new int[] {MIN, MAX, -1, 0, 1, 2, -1000001, 65536, 123456789, -987654321, 555, 777}) {
            for (int n : new int[] {1, 2, 29, 30}) {
                MeanCoats x = wides(3, 100);
                due("34 at first", x.seed(z), 1);
                due("33 z " + z + " n " + n, x.odds(n), sameOf(z, n));
                due("48 z then", x.count(5), stepped(z, 3 * n));
                due("34 z then", x.seed(z), stepped(z, 3 * n));
                due("33 as measured still", x.bodyOf(0, 9), 100);
                noFindings("33", x);
            }
        }
        MeanCoats unlike = new MeanCoats();
        Towns.man(unlike, 6, 250, 50, 150);
        unlike.change(0, 4, -20);
        unlike.seed(123);
        due("33 below 50 and above 250", unlike.odds(30), sameOf(123, 30));
        drawsByBodies();
        MeanCoats three = wides(0, 100, 0, 100, 0, 100);
        three.here(1, false);
        three.odds(1);
        due("33 six draws of two who are here", three.count(5), stepped(1, 6));
        MeanCoats last = wides(0, 200, 0, 150, 3, 100);
        last.here(0, false);
        last.here(1, false);
        last.seed(77);
        due("33 the last alone is here", last.odds(30), sameOf(77, 30));
        MeanCoats away = wides(0, 100);
        away.here(0, false);
        away.odds(30);
        due("33 none of nobody", away.count(5), 1);
    }

    /** The coat's LONG and ARM are of body 1, its WIDE is of body 2: of six draws the first, third and fifth tell. */
    private static void drawsByBodies() {
        for (int z = -40; z < 40; z++) {
            MeanCoats x = new MeanCoats();
            Towns.man(x, 0, 250, 250, 250);
            Towns.man(x, 4, 200, 60, 200);
            Towns.man(x, 3, 100, 100, 100);
            x.here(0, false);
            x.rule(2);
            x.seed(z * 7654321);
            int same = 0;
            int next = z * 7654321;
            for (int i = 0; i < 30; i++) {
                int rests = 0;
                for (int k = 0; k < 6; k++) {
                    next = stepped(next, 1);
                    boolean counts = k == 0 || k == 2 || k == 4;
                    rests += counts && (next >>> 8) % 3 != 1 ? 1 : 0;
                }
                same += rests == 0 ? 1 : 0;
            }
            due("33 by bodies, by measures, z " + z, x.odds(30), same);
        }
    }

    // ---- tapes, spots, sheets

    private static void tapes() {
        MeanCoats x = new MeanCoats();
        due("35 four", x.feed(0x65617365, 4), 4);
        due("35 the lowest of four", x.feed(0xFFFFFF20, 1), 5);
        due("35 the two lowest", x.feed(0xFFFF3939, 2), 7);
        due("35 the three lowest", x.feed(0xFF20203B, 3), 10);
        due("48 bytes", x.count(4), 10);
        due("37 nothing behind ;", x.text(), -11);
        due("36 empty then", x.wipe(), 0);
        for (int i = 1; i <= 30; i++) due("35 up to 120", x.feed(MIN, 4), 4 * i);
        due("48 full", x.count(4), 120);
        due("36 all", x.wipe(), 120);
        due("36 none", x.wipe(), 0);
        for (int i = 1; i <= 120; i++) due("35 one by one", x.feed(0xC0, 1), i);
        due("37 192 begins no token", x.text(), -1);
        due("48 none", x.count(4), 0);
        noFindings("35", x);
    }

    private static void spots() {
        MeanCoats x = new MeanCoats();
        for (int b = 0; b < 12; b++) x.body(6);
        for (int spot = 0; spot <= 9; spot++) due("38 the last body", x.hold(spot, 11), 1);
        due("48 all ten", x.count(6), 10);
        for (int spot = 0; spot <= 9; spot++) due("39 as sly", x.as(spot, 6), 11);
        due("38 the first body", x.hold(9, 0), 1);
        due("39 the first", x.as(9, 0), 0);
        for (int spot = 0; spot <= 9; spot++) due("38 nothing", x.hold(spot, -1), 1);
        due("38 nothing again", x.hold(0, -1), 1);
        due("48 none", x.count(6), 0);
        noFindings("38", x);
        due("39 nothing", x.as(9, 6), Towns.MISSING);
        MeanCoats empty = new MeanCoats();
        due("38 nothing, without bodies", empty.hold(9, -1), 1);
        due("38 body 0, without bodies", empty.hold(9, 0), Towns.BEYOND);
    }

    /** Whether the first number of a sheet is so much, told by a body 0 of that COST (0 to 600); the coat is of 50s. */
    private static boolean isNumber(MeanCoats x, int s, int cost) {
        x.change(0, 1, 50 + Math.min(200, cost));
        x.change(0, 2, 50 + Math.min(200, Math.max(0, cost - 200)));
        x.change(0, 3, 50 + Math.min(200, Math.max(0, cost - 400)));
        due("12 cost", x.cost(0), cost);
        return x.judge(s) == 2;
    }

    private static void lowestBits() {
        int[][] kept = {
            {8, 0, 0}, {8, 127, 127}, {8, 128, -1}, {8, 255, -1}, {8, 256, 0}, {8, 257, 1}, {8, -1, -1}, {8, -128, -1},
            {8, -129, 127}, {8, -256, 0}, {8, MAX, -1}, {8, MIN, 0}, {8, 65536 + 5, 5}, {8, 32768 + 127, 127},
            {16, 0, 0}, {16, 128, 128}, {16, 255, 255}, {16, 256, 256}, {16, 600, 600}, {16, 32768 + 9, -1},
            {16, 65535, -1}, {16, 65536, 0}, {16, 65536 + 600, 600}, {16, -1, -1}, {16, -65536, 0}, {16, -65535, 1},
            {16, 600 - 65536, 600}, {16, MAX, -1}, {16, MIN, 0}, {16, MIN + 300, 300},
            {32, 0, 0}, {32, 128, 128}, {32, 600, 600}, {32, 65536, -1}, {32, 65536 + 5, -1}, {32, -1, -1},
            {32, MAX, -1}, {32, MIN, -1}, {32, MIN + 5, -1}, {32, 16777216, -1},
        };
        for (int[] row : kept) {
            MeanCoats x = new MeanCoats();
            x.body(0);
            Towns.man(x, 0, 50, 50, 50);
            x.here(0, false);
            due("40 a sheet", x.sheet(1, row[0], 1), 1);
            due("41 it becomes it", x.write(1, 0, row[1]), 1);
            for (int v : new int[] {row[1] & 127, row[1] & 255, row[1] & 65535, row[1]}) {
                if (v < 0 || v > 600) continue;
                due("41 of " + row[0] + " bits " + row[1] + " is " + v, isNumber(x, 1, v) ? 1 : 0, v == row[2] ? 1 : 0);
            }
        }
    }

    private static void sheetSizes() {
        for (int bits : new int[] {8, 16, 32}) {
            MeanCoats x = new MeanCoats();
            for (int s : new int[] {0, 3}) {
                due("40 none", x.sheet(s, bits, 0), 0);
                due("41 no number 0", x.write(s, 0, 1), Towns.BEYOND);
                due("42 none of none", x.copy(s, 0, s, 0, 0), 0);
                due("43 none of none", x.load(s), 0);
                due("40 one", x.sheet(s, bits, 1), 1);
                due("41 number 0", x.write(s, 0, 1), 1);
                due("41 no number 1", x.write(s, 1, 1), Towns.BEYOND);
                due("40 forty", x.sheet(s, bits, 40), 40);
                due("41 number 39", x.write(s, 39, 1), 1);
                due("41 no number 40", x.write(s, 40, 1), Towns.BEYOND);
                due("42 all 40", x.copy(s, 0, s, 0, 40), 40);
                due("42 the last", x.copy(s, 39, s, 0, 1), 1);
                due("42 to the last", x.copy(s, 0, s, 39, 1), 1);
                due("42 none behind the last", x.copy(s, 40, s, 40, 0), 0);
            }
            due("42 from 0 to 3", x.copy(0, 0, 3, 0, 40), 40);
            due("40 missing of 40", x.sheet(0, 0, 40), 0);
            due("40 missing of 0", x.sheet(3, 0, 0), 0);
            due("41 missing", x.write(0, 0, 1), Towns.MISSING);
            due("44 missing", x.judge(3), Towns.MISSING);
        }
    }

    private static void loading() {
        MeanCoats x = new MeanCoats();
        x.sheet(0, 16, 40);
        for (int i = 0; i < 40; i++) x.write(0, i, i % 2 == 0 ? 50 : 250);
        due("43 nobody", x.load(0), 0);
        for (int b = 0; b < 12; b++) x.body(0);
        due("43 twelve", x.load(0), 12);
        due("43 the first", x.bodyOf(0, 1), 50);
        due("43 the last", x.bodyOf(11, 3), 250);
        for (int n = 0; n <= 7; n++) {
            x.sheet(1, 16, n);
            for (int i = 0; i < n; i++) x.write(1, i, 70 + n);
            due("43 of " + n, x.load(1), n / 3);
            due("43 a part of three changes nothing", x.bodyOf(n / 3, 1), n / 3 % 2 == 0 ? 50 : 250);
            x.load(0);
        }
        x.write(0, 35, 251);
        due("43 the last isn't right", x.load(0), 11);
        x.write(0, 0, 49);
        due("43 the first isn't right", x.load(0), 0);
        x.here(0, false);
        x.write(0, 0, 250);
        due("43 here or not", x.load(0), 11);
        due("43 here or not", x.bodyOf(0, 1), 250);
    }

    private static void judging() {
        MeanCoats x = wides(0, 100, 0, 140);
        x.sheet(0, 8, 0);
        due("44 none told", x.judge(0), 1);
        x.sheet(0, 8, 1);
        due("44 a wrong one", x.judge(0), 1);
        x.write(0, 0, 20);
        due("44 one of two", x.judge(0), 2);
        x.sheet(0, 8, 2);
        x.write(0, 1, 20);
        due("44 from the first on", x.judge(0), 1);
        x.write(0, 0, 20);
        due("44 all", x.judge(0), 0);
        x.sheet(0, 8, 3);
        x.write(0, 1, 20);
        x.write(0, 0, 20);
        due("44 one too many", x.judge(0), 3);
        x.here(0, false);
        x.sheet(0, 8, 2);
        x.write(0, 0, 40);
        due("44 here or not", x.judge(0), 0);
    }

    // ---- nothing there, images

    private static void nothingThere(String what, MeanCoats x, int bodies) {
        due(what + " 13", x.fits(), 0);
        due(what + " 14", x.costs(), 0);
        due(what + " 15", x.fines(), 0);
        for (int n : new int[] {0, 1, 12}) due(what + " 20", x.send(n), 0);
        for (int rule = 2; rule >= 0; rule--) {
            x.rule(rule);
            due(what + " 21", x.best(), 0);
            due(what + " 22", x.easeFor(), 0);
        }
        due(what + " 26", x.settled(), 1);
        due(what + " 27", x.rounds(1), 0);
        due(what + " 27", x.rounds(20), 0);
        due(what + " 28", x.settles(), 0);
        due(what + " 9", x.famine(1), 0);
        due(what + " 9", x.famine(50), 0);
        due(what + " 48 here", x.count(1), 0);
        due(what + " 48 fit", x.count(2), 0);
        due(what + " 48 bodies", x.count(0), bodies);
        noFindings(what, x);
    }

    private static void nothingThere() {
        nothingThere("no bodies:", new MeanCoats(), 0);
        MeanCoats away = wides(2, 100, 6, 50, 0, 130);
        for (int b = 0; b < 3; b++) {
            away.change(b, 4, 3);
            away.change(b, 5, 7);
            away.here(b, false);
        }
        nothingThere("nobody here:", away, 3);
        due("9 who is away keeps its width", away.bodyOf(2, 2), 130);
        due("27 who is away keeps its bribe", away.bodyOf(0, 4), 3);
    }

    private static void images() {
        MeanCoats x = new MeanCoats();
        due("45 of nothing", x.image(), 1);
        for (int b = 0; b < 12; b++) x.body(2);
        x.spring();
        x.hold(0, 11);
        due("46 no bodies", x.undo(), 0);
        due("48 no springs", x.count(3), 0);
        due("48 no spots", x.count(6), 0);
        due("30 none", x.old(0, 0), Towns.BEYOND);
        due("3 none", x.bodyOf(0, 0), Towns.BEYOND);
        due("2 the first again", x.body(0), 0);
        due("2 as a new one", x.bodyOf(0, 0), 0);
        due("10 a new coat", x.coat(0), 100);
        allUndone();
        MeanCoats full = Towns.full();
        full.image();
        full.wipe();
        full.sheet(0, 0, 0);
        due("46 twelve", full.undo(), 12);
        due("46 the tape is as it is", full.count(4), 0);
        due("46 sheets are as they are", full.load(0), Towns.MISSING);
        due("48 twenty springs", full.count(3), 20);
        due("48 ten spots", full.count(6), 10);
        due("47 torn", full.tear(), 1);
        due("47 not twice", full.tear(), 0);
        due("46 none", full.undo(), Towns.NONE);
    }

    /** Of twelve bodies all that can be changed is changed, and comes back. */
    private static void allUndone() {
        int[] other = {3, 201, 202, 203, 13, 14};
        MeanCoats x = new MeanCoats();
        for (int b = 0; b < 12; b++) {
            Towns.man(x, b % 7, 60 + b, 80 + b, 100 + b);
            x.change(b, 4, b);
            x.change(b, 5, 20 + b);
        }
        x.image();
        for (int b = 0; b < 12; b++) {
            for (int what = 0; what <= 5; what++) x.change(b, what, other[what]);
            x.here(b, false);
        }
        due("46 twelve", x.undo(), 12);
        for (int b = 0; b < 12; b++) {
            int[] was = {b % 7, 60 + b, 80 + b, 100 + b, b, 20 + b, 1};
            for (int what = 0; what <= 6; what++) due("46 body " + b + " " + what, x.bodyOf(b, what), was[what]);
        }
    }

    private static void statusEdges() {
        MeanCoats x = new MeanCoats();
        for (int i = 1; i <= 3; i++) {
            due("49 above", x.status(7), Towns.BEYOND);
            due("49 below", x.status(-2), Towns.BEYOND);
            due("49 counted from then on", x.status(0), 2 * i);
            due("49 all", x.status(-1), 2 * i);
        }
        for (int which = 1; which <= 6; which++) due("49 no other one", x.status(which), 0);
        x.feed('x', 1);
        due("37 a fault", x.text(), -1);
        due("34 z may be any", x.seed(Towns.SIZE), 1);
        due("34 what would be a finding", x.seed(Towns.BEYOND), Towns.SIZE);
        due("48 what would be a finding", x.count(5), Towns.BEYOND);
        due("49 these are none", x.status(-1), 6);
        x.image();
        x.body(-1);
        x.undo();
        x.undo();
        due("49 undo takes none back", x.status(-1), 7);
    }

    public static void main(String[] args) {
        valuesTaken();
        measuredBeyond();
        famines();
        cutQuotients();
        lowestTerms();
        fitEdges();
        bodiesNotCounts();
        worstByCost();
        brides();
        sending();
        swaying();
        sizing();
        bribing();
        roundsByNumbers();
        springs();
        springsBeyond();
        smallestSets();
        draws();
        tapes();
        spots();
        lowestBits();
        sheetSizes();
        loading();
        judging();
        nothingThere();
        images();
        statusEdges();
        Towns.end();
    }
}
