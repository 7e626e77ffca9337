import java.math.BigInteger;
import java.util.ArrayList;
import java.util.List;

/** THE TAPE's TEXTs: behind every beginning each token that may stand there, and each that may not. */
public final class TextEdgesTest {
    private static final String KINDS = "body stretched briber twin giant thin sly";
    private static final String HEADS = KINDS + " rule ease price";

    /** Beginnings, what may follow, and whether the beginning itself is a TEXT. N a b: NUMBERS from a to b. */
    private static final String[][] BEGINNINGS = {
        {"", HEADS, "no"},
        {"ease 5;", HEADS, "no"},
        {"body", "N 50 250", "no"},
        {"stretched", "N 50 250", "no"},
        {"briber", "N 50 250", "no"},
        {"twin", "N 50 250", "no"},
        {"giant", "N 50 250", "no"},
        {"thin", "N 50 250", "no"},
        {"sly", "N 50 250", "no"},
        {"body 60", "N 50 250", "no"},
        {"sly 60 70", "N 50 250", "no"},
        {"body 60 70 80", "bribe pins ;", "yes"},
        {"twin 60 70 80 bribe", "- N 0 20", "no"},
        {"twin 60 70 80 bribe -", "N 0 20", "no"},
        {"twin 60 70 80 bribe 5", "pins ;", "yes"},
        {"twin 60 70 80 bribe - 5", "pins ;", "yes"},
        {"body 60 70 80 pins", "N 0 99", "no"},
        {"body 60 70 80 pins 5", ";", "yes"},
        {"body 60 70 80 bribe 3 pins", "N 0 99", "no"},
        {"body 60 70 80 bribe 3 pins 5", ";", "yes"},
        {"rule", "mean middle most", "no"},
        {"rule mean", ";", "yes"},
        {"rule middle", ";", "yes"},
        {"rule most", ";", "yes"},
        {"ease", "N 0 999", "no"},
        {"ease 7", ";", "yes"},
        {"price", "N 0 99", "no"},
        {"price 7", ";", "yes"},
    };

    private static final String[] WORDS = (HEADS + " bribe pins mean middle most ; - x bodies bod bodysly eas pin minus "
        + "Body BODY . , : / ` { _ + # ! \n \t \r \0 \u00a0 \u00e9 \u00ff @ [ ~").split(" ");
    private static final int[] NUMBERS = {0, 1, 19, 20, 21, 49, 50, 51, 98, 99, 100, 101, 249, 250, 251, 998, 999, 1000,
        1001, 9999, 65636, Integer.MAX_VALUE};
    private static final String[] LONG_NUMBERS = {"4294967296", "4294967346", "4294967396", "18446744073709551716",
        "18446744073709551666", "00000000001000"};

    private static int read(MeanCoats x, String text) {
        Towns.feedAll(x, text);
        return x.text();
    }

    private static boolean mayFollow(String[] beginning, String token) {
        String[] may = beginning[1].split(" ");
        for (int i = 0; i < may.length; i++) {
            if (may[i].equals("N")) {
                if (!token.matches("[0-9]+")) return false;
                BigInteger v = new BigInteger(token);
                return v.compareTo(new BigInteger(may[i + 1])) >= 0
                    && v.compareTo(new BigInteger(may[i + 2])) <= 0;
            }
            if (may[i].equals(token)) return true;
        }
        return false;
    }

    private static int itemsOf(String text) {
        return 1 + (int) text.chars().filter(c -> c == ';').count();
    }

    /** Whether a token may end a TEXT that has been one up to it. */
    private static boolean mayEnd(String[] beginning, String token) {
        boolean isNumber = token.matches("[0-9]+");
        boolean isLast = !beginning[0].matches("(body|stretched|briber|twin|giant|thin|sly)( 60)?");
        return isNumber && isLast || token.matches("mean|middle|most");
    }

    private static void faultHere(String text, int place) {
        MeanCoats x = Towns.small();
        x.wipe();
        Towns.due("37 \"" + text + "\"", read(x, text), -1 - place);
        Towns.due("37 empty then", x.count(4), 0);
        Towns.due("37 no finding", x.status(-1), 0);
        MeanCoats twin = Towns.small();
        twin.wipe();
        for (int part = 0; part <= 3; part += 3) {
            Towns.dueAll("37 \"" + text + "\" changes nothing", Towns.tell(x, part), Towns.tell(twin, part));
        }
    }

    private static void follow(String[] beginning, String token, String blanks) {
        String text = beginning[0] + blanks + token;
        int place = beginning[0].length() + blanks.length();
        if (!mayFollow(beginning, token)) {
            faultHere(text, place);
            faultHere(text + " ", place);
            faultHere(text + " ; ease 8", place);
        } else if (mayEnd(beginning, token)) {
            Towns.due("37 \"" + text + "\"", read(new MeanCoats(), text), itemsOf(text));
            Towns.due("37 \"" + text + " \"", read(new MeanCoats(), text + " "), itemsOf(text));
        } else {
            faultHere(text, text.length());
            faultHere(text + "  ", text.length() + 2);
        }
    }

    private static List<String> tokens() {
        List<String> tokens = new ArrayList<>(List.of(WORDS));
        for (int v : NUMBERS) tokens.add("" + v);
        for (int v : NUMBERS) tokens.add("0" + v);
        tokens.addAll(List.of(LONG_NUMBERS));
        return tokens;
    }

    private static void allThatFollows() {
        for (String[] beginning : BEGINNINGS) {
            for (String token : tokens()) {
                follow(beginning, token, " ");
                follow(beginning, token, "   ");
            }
            String text = beginning[0];
            if (beginning[2].equals("yes")) {
                Towns.due("37 \"" + text + "\"", read(new MeanCoats(), text), itemsOf(text));
                Towns.due("37 \" " + text + " \"", read(new MeanCoats(), " " + text + " "), itemsOf(text));
            } else {
                faultHere(text, text.length());
                faultHere(text + " ", text.length() + 1);
                faultHere("  " + text + "   ", text.length() + 5);
            }
        }
    }

    /** Tokens are as long as can be: what stands close together is one, unless it is of another sort. */
    private static void closeTogether() {
        MeanCoats x = new MeanCoats();
        Towns.due("37 close together", read(x, "sly50 60 70bribe-20pins99;rule most;ease999;price0"), 4);
        Towns.dueAll("37 all of it", Towns.bodies(x), List.of(6, 50, 60, 70, -20, 99, 1, 1));
        Towns.due("37 ease", x.ease(0), 999);
        Towns.due("37 price", x.price(1), 0);
        Towns.due("37 rule", x.rule(0), 2);
        faultHere("body 506070 80 90", 5);
        faultHere("bodysly 50 60 70", 0);
        faultHere("rulemost", 0);
        faultHere("rule mostease 5", 5);
        faultHere("bo dy 50 60 70", 0);
        faultHere("ease 1 0", 7);
        faultHere("body 50 60 70 bribe 2 0", 22);
        faultHere("body 50;60;70", 7);
        faultHere("ease 5 ; ; ease 6", 9);
        faultHere("ease 5 ;- ease 6", 8);
        faultHere("; ease 5", 0);
        faultHere("ease - 5", 5);
        faultHere("body 50 60 70 bribe - - 5", 22);
        faultHere("body 50 60 70 bribe 5 bribe 5", 22);
        faultHere("body 50 60 70 pins 5 pins 5", 21);
        faultHere("body 50 60 70 pins 5 bribe 5", 21);
    }

    /** What an item tells is so; of several the later one stands. */
    private static void itemByItem() {
        MeanCoats x = new MeanCoats();
        Towns.due("37 items", read(x, "ease 1;ease 2;price 3;price 99;rule most;rule mean;rule middle;ease 0"), 8);
        Towns.due("37 ease", x.ease(20), 0);
        Towns.due("37 price", x.price(1), 99);
        Towns.due("37 rule", x.rule(0), 1);
        Towns.due("37 no bodies", x.count(0), 0);
        Towns.due("37 bodies", read(x, "body 250 50 250 bribe 0 pins 0;briber 50 250 50 bribe 20;sly 51 249 52 bribe -20"), 3);
        Towns.due("37 more of them", read(x, "thin 50 50 50 pins 99;twin 53 54 55 bribe - 0;giant 56 57 58;stretched 50 50 50"), 4);
        int[][] want = {{0, 250, 50, 250, 0, 0, 1, 1}, {2, 50, 250, 50, 20, 0, 1, 1}, {6, 51, 249, 52, -20, 0, 1, 1},
            {5, 50, 50, 50, 0, 99, 1, 1}, {3, 53, 54, 55, 0, 0, 1, 2}, {4, 56, 57, 58, 0, 0, 1, 3}, {1, 50, 50, 50, 0, 0, 1, 1}};
        for (int b = 0; b < want.length; b++) {
            for (int what = 0; what <= 7; what++) Towns.due("37 body " + b + " " + what, x.bodyOf(b, what), want[b][what]);
        }
        Towns.due("37 here", x.count(1), 7);
        Towns.due("37 no finding", x.status(-1), 0);
    }

    private static MeanCoats ofBodies(int bodies) {
        MeanCoats x = new MeanCoats();
        for (int b = 0; b < bodies; b++) x.body(b % 7);
        return x;
    }

    /** The WORD of a 13th BODY is the FAULT, be what follows right or wrong. */
    private static void thirteenth() {
        String[] kinds = KINDS.split(" ");
        for (int bodies = 9; bodies <= 12; bodies++) {
            for (String kind : kinds) {
                StringBuilder text = new StringBuilder("ease 8");
                for (int b = bodies; b < 12; b++) text.append("; sly 60 60 60");
                MeanCoats fits = ofBodies(bodies);
                Towns.due("37 up to twelve", read(fits, text.toString()), 13 - bodies);
                Towns.due("37 twelve", fits.count(0), 12);
                Towns.due("37 ease", fits.ease(0), 8);
                text.append(" ;  ");
                int place = text.length();
                for (String end : new String[] {"", " 60", " 60 60 60", " 49", " x", ";"}) {
                    MeanCoats x = ofBodies(bodies);
                    Towns.due("37 a 13th with \"" + kind + end + "\"", read(x, text + kind + end), -1 - place);
                    Towns.due("37 none came", x.count(0), bodies);
                    Towns.due("37 no ease", x.ease(0), 20);
                    Towns.due("37 no finding", x.status(-1), 0);
                }
            }
        }
        MeanCoats away = ofBodies(12);
        for (int b = 0; b < 12; b++) away.here(b, false);
        Towns.due("37 a 13th, all away", read(away, "body 60 60 60"), -1);
        Towns.due("37 an earlier fault", read(away, "ease x; body 60 60 60"), -6);
    }

    private static void ends() {
        MeanCoats x = new MeanCoats();
        Towns.due("37 an empty tape", x.text(), -1);
        Towns.due("37 no finding", x.status(-1), 0);
        Towns.due("37 blanks alone", read(x, " ".repeat(120)), -121);
        Towns.due("37 the last byte of 120", read(x, " ".repeat(119) + "x"), -120);
        Towns.due("37 behind the last of 120", read(x, " ".repeat(116) + "ease"), -121);
        Towns.due("37 a text of 120", read(x, " ".repeat(115) + "ease7"), 1);
        Towns.due("37 its ease", x.ease(20), 7);
        Towns.due("37 a word of 120", read(x, "e".repeat(120)), -1);
        Towns.due("37 a number of 115", read(x, "ease " + "9".repeat(115)), -6);
        Towns.due("37 noughts of 115", read(x, "ease " + "0".repeat(115)), 1);
        Towns.due("37 its ease", x.ease(20), 0);
        Towns.due("37 120 signs", read(x, ";".repeat(120)), -1);
        Towns.due("37 many items", read(x, "ease1;".repeat(19) + "ease2 "), 20);
        Towns.due("37 its ease", x.ease(20), 2);
        Towns.due("37 an item too few", read(x, "ease1;".repeat(20)), -121);
        for (int b = 0; b <= 255; b++) {
            boolean isBlank = b == ' ';
            boolean isDigit = b >= '0' && b <= '9';
            int want = isBlank || isDigit ? 1 : b == ';' ? -9 : -8;
            Towns.due("37 byte " + b + " behind a number", read(x, "ease 11" + (char) b), want);
            Towns.due("37 byte " + b + " ahead", read(x, (char) b + "ease 11"), isBlank ? 1 : -1);
        }
        Towns.due("37 empty then", x.wipe(), 0);
    }

    /** A WORD goes on by the letters a to z alone, a NUMBER by digits alone: each byte close behind and between them. */
    private static void eachByteBehind() {
        for (int b = 0; b <= 255; b++) {
            boolean isLetter = b >= 'a' && b <= 'z';
            boolean isDigit = b >= '0' && b <= '9';
            MeanCoats x = new MeanCoats();
            int want = isLetter ? -1 - 5 : b == ' ' ? 1 : b == ';' ? -1 - 10 : -1 - 9;
            Towns.due("37 byte " + b + " behind a word", read(x, "rule most" + (char) b), want);
            int between = isLetter ? -1 : isDigit || b == ' ' ? 1 : -1 - 4;
            Towns.due("37 byte " + b + " between word and number", read(x, "ease" + (char) b + "5"), between);
            int ease = isDigit ? 10 * (b - '0') + 5 : b == ' ' ? 5 : 20;
            Towns.due("37 byte " + b + ": ease", x.ease(20), ease);
            Towns.due("37 byte " + b + " within a word", read(x, "ea" + (char) b + "se 5"), -1);
            int after = b == ' ' || b == ';' ? -1 - 7 : isDigit ? 1 : -1 - 6;
            Towns.due("37 byte " + b + " within a number", read(x, "ease 1" + (char) b + "7"), after);
        }
    }

    public static void main(String[] args) {
        allThatFollows();
        closeTogether();
        itemByItem();
        thirteenth();
        ends();
        eachByteBehind();
        Towns.end();
    }
}
