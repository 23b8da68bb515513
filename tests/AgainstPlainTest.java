/**
 * Long rows of calls, always the same, on an InnTurned and on the second inn, Plain: each answer and, behind
 * each call, the digest must be the same; what refusals there were, too. Numbers are mostly as told, now and
 * then not; texts are mostly right, now and then spoilt.
 */
public final class AgainstPlainTest {
    private static final int ROWS = 1200, CALLS = 500;
    private static final String[] NAMES = {"inn", "landlord", "wet", "one", "type", "clear", "read", "comes",
        "goes", "letter", "nights", "undo", "of", "now", "may", "when", "pen", "order", "seen", "often", "tell",
        "note", "mark", "forget", "is", "look", "kinds", "ask", "door", "rain", "decades", "part", "image",
        "from", "status", "count", "digest"};

    /** How often each is called, by its name's place: what changes who is in, mostly. */
    private static final int[] WEIGHTS = {1, 4, 4, 8, 1, 1, 2, 30, 20, 12, 8, 9, 4, 4, 6, 6, 6, 1, 6, 6, 4,
        6, 5, 2, 5, 5, 4, 4, 6, 6, 5, 2, 3, 3, 2, 2, 0};

    private static long state;
    private static int asked;
    private static InnTurned x;
    private static Plain y;

    public static void main(String[] args) {
        int total = 0;
        for (int weight : WEIGHTS) total += weight;
        for (int row = 0; row < ROWS; row++) {
            state = row;
            x = new InnTurned();
            y = new Plain();
            StringBuilder calls = new StringBuilder();
            asked = 0;
            while (asked < CALLS && call(row, pick(total), calls)) calls.append(' ');
            for (int k = 0; k < 3; k++) Due.due("status(" + k + ")", x.status(k), y.status(k));
        }
        Due.end();
    }

    private static int upTo(int n) {
        state = state * 6364136223846793005L + 1442695040888963407L;
        return (int) ((state >>> 33) % n);
    }

    private static int pick(int total) {
        int left = upTo(total);
        int place = 0;
        while (left >= WEIGHTS[place]) left -= WEIGHTS[place++];
        return place;
    }

    /** From least to most; one in forty is one beyond, or far beyond. */
    private static int number(int least, int most) {
        int spoilt = upTo(160);
        if (spoilt == 0) return least - 1;
        if (spoilt == 1) return most + 1;
        if (spoilt == 2) return Integer.MIN_VALUE;
        if (spoilt == 3) return Integer.MAX_VALUE;
        return least + upTo(most - least + 1);
    }

    private static int guest() {
        return number(0, Math.max(0, y.count(0) - 1));
    }

    private static boolean call(int row, int place, StringBuilder calls) {
        String name = NAMES[place];
        int a = first(name), b = second(name, a), c = third(name), d = name.equals("seen") ? number(0, 1) : number(0, 99);
        int e = name.equals("note") ? noted(a, b, c, d) : 0;
        calls.append(name + "(" + a + " " + b + " " + c + " " + d + " " + e + ")");
        if (name.equals("read") && asked < CALLS - 160) typeText();
        asked += 2;
        long got = Inns.ask(x, name, a, b, c, d, e), want = Inns.ask(y, name, a, b, c, d, e);
        Due.promise("row " + row + ": " + (got == want ? "" : calls.toString()));
        Due.due(name, got, want);
        long was = x.digest(), due = y.digest();
        Due.promise("row " + row + ": " + (was == due ? "" : calls.toString()));
        Due.due("digest() behind " + name, was, due);
        return got == want && was == due;
    }

    private static int first(String name) {
        switch (name) {
            case "inn": case "landlord": case "one": return number(0, 5);
            case "wet": return number(0, 5);
            case "type": return number(0, 127);
            case "nights": return upTo(4) > 0 ? number(1, 3) : number(1, 99);
            case "now": return number(0, 5);
            case "order": return number(-1, 7);
            case "mark": return number(0, 4);
            case "forget": case "status": return number(0, 2);
            case "decades": return number(0, 999999);
            case "part": case "image": case "from": return number(0, 1);
            case "count": return number(0, 8);
            default: return guest();
        }
    }

    private static int second(String name, int a) {
        switch (name) {
            case "inn": return upTo(3) > 0 ? 3 : number(0, 7);
            case "wet": return number(0, 4);
            case "of": return number(0, 4);
            case "often": return number(0, 2);
            case "rain": return number(0, 10);
            case "decades": return number(0, 60);
            case "one": return upTo(3) > 0 ? number(0, 4) : number(0, 9);
            case "letter": return upTo(2) > 0 ? number(0, 4) : number(0, 9);
            default: return number(0, 9);
        }
    }

    private static int third(String name) {
        switch (name) {
            case "seen": return number(0, 99);
            case "mark": return upTo(2) > 0 ? number(-3, 12) : number(-20, 99);
            default: return number(0, 9);
        }
    }

    /** Often what some kind would answer, so that kinds are left by more than one note. */
    private static int noted(int i, int w, int v, int n) {
        int plain = 2 * w + v;
        int[] likely = {plain, plain + 4, plain / 2, plain + 10, 3, plain / 2 + 9};
        return upTo(4) > 0 ? Math.max(0, Math.min(60, likely[upTo(6)])) : number(0, 60);
    }

    private static void typeText() {
        StringBuilder text = new StringBuilder("inn " + upTo(6) + " " + upTo(8) + ";");
        int guests = 0;
        while (text.length() < 90 && upTo(20) > 0) {
            int sort = upTo(9);
            if (sort < 3 || guests == 0) {
                text.append("one " + upTo(6) + (upTo(2) > 0 ? " " : "  0") + upTo(6) + ";");
                guests++;
            } else if (sort < 6) {
                text.append((upTo(4) > 0 ? "come" : "go ") + upTo(guests) + " ;");
            } else if (sort == 6) {
                text.append("letter " + upTo(guests) + " " + upTo(10) + ";");
            } else if (sort == 7) {
                text.append(" nights " + (1 + upTo(20)) + ";");
            } else {
                text.append("wet");
                for (int n = upTo(6); n >= 0; n--) text.append(" " + upTo(5));
                text.append(';');
            }
        }
        spoil(text);
        asked += 1 + text.length();
        Due.due("clear", x.clear(), y.clear());
        for (int k = 0; k < text.length(); k++) Due.due("type", x.type(text.charAt(k)), y.type(text.charAt(k)));
    }

    private static void spoil(StringBuilder text) {
        int place = upTo(text.length());
        String other = "inwetocmglrsh 0123456789;;  #A{/:";
        int way = upTo(8);
        if (way == 0) text.setCharAt(place, other.charAt(upTo(other.length())));
        if (way == 1) text.deleteCharAt(place);
        if (way == 2) text.insert(place, other.charAt(upTo(other.length())));
        if (way == 3) text.setLength(place);
    }
}
