import java.util.ArrayList;
import java.util.List;

/**
 * Promise 8 and what is told of THE TEXT: at each place of a text each TOKEN is tried, those that can stand
 * there and those that can not; blanks; what an INN that is read leaves, and what it takes the place of.
 */
public final class ReadTest {
    private static final String PEOPLE = "inn 0 3;one 0 0;one 0 5;come 0;";
    private static final String SEVEN = "inn 0 3;one 0 0;one 0 0;one 0 0;one 0 0;one 0 0;one 0 0;one 0 0;";
    private static final String[] WORDS = {"inn", "wet", "one", "come", "go", "letter", "nights"};
    private static final String[] NO_WORDS = {"a", "z", "in", "inns", "iinn", "innone", "wat", "wett", "on", "ones", "comes",
        "com", "goes", "g", "letters", "lette", "night", "nightss", "king", "be", "abcdefghijklmnopqrstuvwxyz"};
    private static final String[] NO_NUMBERS = {"000", "001", "012", "100", "999", "0000", "1234567890"};

    private static int tried = 0;

    public static void main(String[] args) {
        anItemsFirst();
        numbersOfItems();
        whoIsThere();
        endsOfItems();
        theEighth();
        bytesThatBeginNone();
        blanks();
        blanksBetweenAreNeeded();
        theFirstFaultCounts();
        itEndsTooEarly();
        wets();
        nightsWhereTheyStand();
        lettersAndComings();
        items();
        takesThePlaceOfAll();
        leavesImagesTextFractionStatus();
        aFaultLeavesAll();
        readAgain();
        Due.holds("each place has been tried", tried > 4000);
        Due.end();
    }

    /** Where a word may begin an ITEM: behind ; and, inn alone, first of all. */
    private static void anItemsFirst() {
        Due.promise("promise 8: inn once, first of all; anything ahead of it, inn again");
        for (String token : tokens()) stands("", token, token.equals("inn"));
        for (String ahead : new String[] {"inn 0 3;", PEOPLE, PEOPLE + "nights 5;", "inn 5 7;wet 1 2;"}) {
            for (String token : tokens()) stands(ahead, token, isWord(token) && !token.equals("inn"));
        }
    }

    private static void numbersOfItems() {
        Due.promise("promise 8: a number not as told, a run of three figures or more (at its first one)");
        number("inn ", 0, 5);
        number("inn 3 ", 0, 7);
        number("inn 0 3;one ", 0, 5);
        number("inn 0 3;one 2 ", 0, 9);
        number(PEOPLE + "letter 1 ", 0, 9);
        number(PEOPLE + "nights ", 1, 99);
        number("inn 0 3;nights ", 1, 99);
        number("inn 0 3;wet ", 0, 4);
        for (String ahead : new String[] {"4 ", "0 1 ", "0 1 2 ", "0 1 2 3 ", "0 1 2 3 4 "}) numberOrEnd("inn 0 3;wet " + ahead, 0, 4);
    }

    private static void whoIsThere() {
        Due.promise("promise 8: one that is not there yet, one who is IN (come), OUT (go)");
        number(PEOPLE + "come ", 1, 1);
        number(PEOPLE + "go ", 0, 0);
        number(PEOPLE + "letter ", 0, 1);
        number(PEOPLE + "come 1;come ", 1, 1);
        number(PEOPLE + "letter 1 3;come 1;go ", 0, 1);
        number(PEOPLE + "go 0;come ", 0, 1);
        for (String word : new String[] {"come ", "go ", "letter "}) number("inn 0 3;" + word, 1, 0);
        number(PEOPLE + "go 0;go ", 1, 0);
        number("inn 0 0;one 0 0;come 0;go ", 1, 0);
    }

    private static void endsOfItems() {
        Due.promise("promise 8: each ended by ; (a 7th number can not stand)");
        for (String item : new String[] {"inn 0 3", PEOPLE + "wet 0 1 2 3 4 0", PEOPLE + "one 0 0", PEOPLE + "come 1",
            PEOPLE + "go 0", PEOPLE + "letter 0 0", PEOPLE + "nights 7"}) {
            for (String token : tokens()) stands(item + " ", token, token.equals(";"));
        }
    }

    private static void theEighth() {
        Due.promise("promise 8: an 8th one at its word");
        for (String token : tokens()) stands(SEVEN, token, isWord(token) && !token.equals("inn") && !token.equals("one"));
        fault(SEVEN + "one 9 99", SEVEN.length());
        fault(SEVEN + "come 0;one 0 0;", SEVEN.length() + 7);
        stands(SEVEN.substring(0, SEVEN.length() - 8), "one", true);
        Due.due("seven", Due.told(SEVEN).count(0), 7);
    }

    private static void bytesThatBeginNone() {
        Due.promise("promise 8: a byte that begins none");
        for (int c = 0; c < 128; c++) {
            if (c == ' ' || c == ';' || c >= 'a' && c <= 'z' || c >= '0' && c <= '9') continue;
            for (String ahead : new String[] {"", "  ", "inn", "inn 0", "inn 0 3", "inn 0 3;", PEOPLE + "let", PEOPLE + "nights 1"}) {
                boolean half = ahead.endsWith("let");
                fault(ahead + (char) c, half ? ahead.length() - 3 : ahead.length());
                fault(ahead + (char) c + " 0 3;", half ? ahead.length() - 3 : ahead.length());
            }
        }
    }

    private static void blanks() {
        Due.promise("promise 8: blanks, any number, ahead of, between and behind TOKENS");
        String[] tokens = {"inn", "1", "04", ";", "wet", "3", "2", ";", "one", "0", "1", ";", "come", "0", ";", "go", "0", ";",
            "letter", "0", "09", ";", "nights", "12", ";"};
        for (int where = 0; where <= tokens.length; where++) {
            for (int many = 0; many <= 3; many++) sameInn(spaced(tokens, where, many, 0));
        }
        sameInn(spaced(tokens, 0, 1, 1));
        sameInn(spaced(tokens, 0, 2, 2));
        InnTurned x = new InnTurned();
        Inns.type(x, "inn 5 7;", 150);
        Due.due("blanks up to the last byte", x.read(), 1);
        Inns.type(x, " ".repeat(142) + "inn 4 6;", 150);
        Due.due("blanks from the first byte", x.read(), 1);
        Due.due("landlord", x.now(0), 4);
    }

    /** So many blanks at one place, so many at each other; one at least where one is needed. */
    private static String spaced(String[] tokens, int where, int many, int others) {
        StringBuilder text = new StringBuilder();
        for (int k = 0; k <= tokens.length; k++) {
            int least = k > 0 && k < tokens.length && needed(tokens[k - 1], tokens[k]) ? 1 : 0;
            text.append(" ".repeat(Math.max(least, k == where ? many : others)));
            if (k < tokens.length) text.append(tokens[k]);
        }
        return text.toString();
    }

    private static void sameInn(String text) {
        InnTurned x = new InnTurned(), y = Due.told("inn 1 4;wet 3 2;one 0 1;come 0;go 0;letter 0 9;nights 12;");
        Due.due("read of [" + text + "]", Due.read(x, text), 7);
        x.clear();
        y.clear();
        Due.due("the same inn by [" + text + "]", x.digest(), y.digest());
    }

    private static boolean needed(String a, String b) {
        return !a.equals(";") && !b.equals(";") && Character.isDigit(a.charAt(0)) == Character.isDigit(b.charAt(0));
    }

    private static void blanksBetweenAreNeeded() {
        Due.promise("promise 8: blanks are needed between two words, two numbers; 1 or 2 figures are one number");
        fault("inninn 0 3;", 0);
        fault("inn 03;", 6);
        fault("inn 0 3;oneone 0 0;", 8);
        fault("inn 0 3;one 00;", 14);
        fault("inn 0 3;wet 01234;", 12);
        fault("inn 0 3one 0 0;", 7);
        Due.due("05 07", Due.told("inn 05 07;").now(1), 7);
        Due.due("00", Due.told("inn 0 3;one 00 00;").count(0), 1);
        Due.due("nights99", Due.told("inn0 3;nights99;").count(2), 99);
        Due.due("nights 09", Due.told("inn 0 3;nights 09;").count(2), 9);
    }

    private static void theFirstFaultCounts() {
        Due.promise("promise 8: the first TOKEN that can not stand there");
        fault("inn 9 9;one 9 9;", 4);
        fault("inn 0 3;one 0 10;come 5;", 14);
        fault("inn 0 3;come 0;#", 13);
        fault("inn 0 3;#;inn", 8);
        fault("inn 0 3;nights 100 0;", 15);
        fault("# inn", 0);
    }

    private static void itEndsTooEarly() {
        Due.promise("promise 8: the TEXT's length, if it ends too early (an empty one, too)");
        String[] tokens = {"inn", " 0", " 3", ";", "wet", " 0", " 1", ";", "one", " 0", " 2", ";", "come", " 0", ";", "letter",
            " 0", " 3", ";", "go", " 0", ";", "nights", " 7", ";"};
        StringBuilder text = new StringBuilder();
        fault("", 0);
        for (String token : tokens) {
            text.append(token);
            for (String blanks : new String[] {"", " ", "    "}) {
                String told = text + blanks;
                if (token.equals(";")) Due.holds("[" + told + "] ends there", Due.read(new InnTurned(), told) > 0);
                else fault(told, told.length());
            }
        }
        for (int blanks = 1; blanks <= 150; blanks += 149) fault(" ".repeat(blanks), blanks);
        fault("inn 0 3" + " ".repeat(143), 150);
    }

    private static void wets() {
        Due.promise("promise 8: wet and 1 to 6 numbers (of nights 0, 1, ..)");
        for (int many = 1; many <= 6; many++) {
            StringBuilder text = new StringBuilder("inn 0 3;wet");
            for (int n = 0; n < many; n++) text.append(' ').append(4 - n % 4);
            InnTurned x = Due.told(text + ";");
            for (int n = 0; n < 6; n++) Due.due("wet of night " + n + " of " + many, x.wet(n, 0), n < many ? 4 - n % 4 : 0);
        }
        InnTurned x = Due.told("inn 0 3;wet 1 2 3 4 3 2;wet 0 4;wet 4;");
        int[] due = {4, 4, 3, 4, 3, 2};
        for (int n = 0; n < 6; n++) Due.due("wet, told again, of night " + n, x.wet(n, 0), due[n]);
    }

    private static void nightsWhereTheyStand() {
        Due.promise("promise 8: nights n: so many go by, where it stands");
        InnTurned x = Due.told("inn 0 3;one 0 8;one 0 9;come 1;come 0;");
        Due.due("a wheel ahead, turned away", x.now(3) * 100 + x.now(2) * 10 + x.count(1), 220);
        x = Due.told("inn 0 3;one 0 4;one 0 9;come 1;nights 1;come 0;");
        Due.due("a night between, in", x.now(3) * 100 + x.now(2) * 10 + x.count(1), 111);
        Due.due("night", x.count(2), 1);
        x = Due.told("inn 0 3;one 0 4;one 0 9;nights 1;come 1;come 0;nights 99;nights 99;");
        Due.due("a night ahead, turned away", x.now(3) * 100 + x.now(2) * 10 + x.count(1), 200);
        Due.due("night", x.count(2), 199);
        x = Due.told("inn 2 3;wet 0 1;one 0 4;letter 0 5;come 0;nights 1;");
        Due.due("9 of 8 on a dry night", x.now(3), 1);
        x = Due.told("inn 2 3;wet 0 2;one 0 4;letter 0 5;nights 1;come 0;");
        Due.due("10 of 10 on a wet one", x.count(1), 1);
        x = Due.told("inn 0 3;one 3 2;nights 4;come 0;");
        Due.due("a king on night 4", x.now(3), 1);
        x = Due.told("inn 0 3;one 3 2;nights 5;come 0;");
        Due.due("a king on night 5", x.count(1), 1);
    }

    private static void lettersAndComings() {
        Due.promise("promise 8: come i; go i; letter i WORD (be it so already)");
        InnTurned x = Due.told("inn 0 1;one 0 0;come 0;letter 0 0;letter 0 9;letter 0 9;go 0;come 0;one 0 9;come 1;come 1;");
        Due.due("visits", x.of(0, 2) * 10 + x.of(1, 2), 10);
        Due.due("word", x.of(0, 1), 9);
        Due.due("turned away, wheels", x.now(3) * 10 + x.now(2), 34);
        Due.due("in", x.count(1), 0);
        x = Due.told("inn 0 1;one 0 0;one 0 1;come 0;come 1;go 0;come 1;");
        Due.due("no room, then one", x.now(3) * 100 + x.of(0, 3) * 10 + x.of(1, 3), 101);
    }

    private static void items() {
        Due.promise("promise 8: how many ITEMS");
        StringBuilder text = new StringBuilder("inn 0 3;");
        for (int items = 1; text.length() <= 150; items++) {
            Due.due("read of [" + text + "]", Due.read(new InnTurned(), text.toString()), items);
            text.append("wet4;");
        }
    }

    private static void takesThePlaceOfAll() {
        Due.promise("promise 8: takes the place of all (SEEN ones, NOTES, MARKS none; nothing to undo)");
        String text = "inn 1 2;one 0 3;one 1 0;come 1;nights 3;";
        InnTurned x = Inns.full(), y = Due.told(text);
        Due.due("the fraction stays", x.part(0) * 100 + x.part(1), 310);
        Due.due("read", Due.read(x, text), 5);
        Due.due("the fraction is one of its own", x.part(0) * 100 + x.part(1), 310);
        x.rain(1, 5);
        x.letter(1, 9);
        x.rain(0, 0);
        y.letter(1, 9);
        y.rain(0, 0);
        Due.due("fraction", x.part(0) * 100 + x.part(1), y.part(0) * 100 + y.part(1));
        Due.due("the same inn, whatever was there", x.digest(), y.digest());
        Due.due("one to undo", x.undo(), 3);
        Due.due("no more", x.undo(), -3);
        for (int k = 4; k <= 7; k++) Due.due("none of count(" + k + ")", x.count(k), 0);
    }

    private static void leavesImagesTextFractionStatus() {
        Due.promise("promise 8: all but IMAGES, THE TEXT, THE FRACTION, STATUS");
        InnTurned x = Inns.full(), y = Inns.full();
        for (InnTurned z : new InnTurned[] {x, y}) {
            z.comes(9);
            z.comes(0);
            z.comes(0);
            for (int k = 0; k < 3; k++) z.type(1);
        }
        Due.due("read", x.read(), 6);
        Due.due("bytes", x.count(8), 150);
        for (int k = 0; k < 3; k++) Due.due("status(" + k + ")", x.status(k), k + 1);
        for (int k = 0; k < 2; k++) Due.due("part(" + k + ")", x.part(k), k == 0 ? 3 : 10);
        for (int i = 0; i < 2; i++) {
            Due.due("from", x.from(i), 1);
            y.from(i);
            Due.due("an image stays", x.digest(), y.digest());
        }
        Due.due("read", x.read(), 6);
        y.read();
        Due.due("the text stays", x.digest(), y.digest());
    }

    private static void aFaultLeavesAll() {
        Due.promise("promise 8: -10 less the FAULT: all stays");
        for (String text : new String[] {"", "inn", "inn 5 7", "inn 5 7;one 3 3;wet 1 2 3 4 0 1;nights 9;come 1;", "#"}) {
            InnTurned x = Inns.full(), y = Inns.full();
            Inns.type(x, text, 150);
            Inns.type(y, text, 150);
            Due.holds("a fault", x.read() <= -10);
            for (int k = 0; k < 3; k++) Due.due("status(" + k + ")", x.status(k), 0);
            long[] is = Inns.trace(x), due = Inns.trace(y);
            for (int k = 0; k < due.length; k++) Due.due("answer " + k + " behind [" + text + "]", is[k], due[k]);
        }
    }

    private static void readAgain() {
        Due.promise("promise 8: the text stays, and may be read again");
        InnTurned x = Due.told("inn 0 3;one 0 0;come 0;");
        long was = x.digest();
        x.goes(0);
        x.nights(5);
        Due.due("read", x.read(), 3);
        Due.due("the same inn", x.digest(), was);
        for (char c : "one 0 0;".toCharArray()) x.type(c);
        Due.due("read of more", x.read(), 4);
        x.type('x');
        Due.due("a word behind it", x.read(), -10 - 31);
        Due.due("all stays", x.count(0), 2);
        x.clear();
        Due.due("an empty one", x.read(), -10);
        Due.due("all stays", x.count(0), 2);
    }

    private static void number(String ahead, int least, int most) {
        for (String token : tokens()) stands(ahead, token, isNumber(token, least, most));
    }

    private static void numberOrEnd(String ahead, int least, int most) {
        for (String token : tokens()) stands(ahead, token, token.equals(";") || isNumber(token, least, most));
    }

    private static boolean isNumber(String token, int least, int most) {
        return token.matches("[0-9]{1,2}") && Integer.parseInt(token) >= least && Integer.parseInt(token) <= most;
    }

    private static boolean isWord(String token) {
        return List.of(WORDS).contains(token);
    }

    private static List<String> tokens() {
        List<String> tokens = new ArrayList<>(List.of(WORDS));
        tokens.addAll(List.of(NO_WORDS));
        tokens.addAll(List.of(NO_NUMBERS));
        tokens.add(";");
        for (int n = 0; n < 100; n++) tokens.add(String.valueOf(n));
        for (int n = 0; n < 10; n++) tokens.add("0" + n);
        for (String token : new String[] {"#", "-1", "+1", "A", ",", "\t", "\n", "\0", "\u007f", ":", "/", "`", "{"}) tokens.add(token);
        return tokens;
    }

    /** A TOKEN that can not stand is the FAULT, whatever is behind it; behind one that can, it is farther on, if any. */
    private static void stands(String ahead, String token, boolean can) {
        tried++;
        if (!can) {
            fault(ahead + token, ahead.length());
            fault(ahead + token + " ;", ahead.length());
            fault("  " + ahead + " " + token, ahead.length() + 3);
            return;
        }
        int read = Due.read(new InnTurned(), ahead + token);
        Due.holds("[" + ahead + token + "] can stand", token.equals(";") ? read > 0 : read == -10 - ahead.length() - token.length());
    }

    private static void fault(String text, int place) {
        InnTurned x = new InnTurned();
        Due.due("read of [" + text + "]", Due.read(x, text), -10 - place);
        Due.due("no refusal", x.status(0) + x.status(1) + x.status(2), 0);
        Due.due("all stays", x.count(0) + x.count(1) + x.count(2) + x.now(0) + x.now(1), 3);
    }
}
