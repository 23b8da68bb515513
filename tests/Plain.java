import java.util.ArrayDeque;
import java.util.ArrayList;
import java.util.Deque;
import java.util.List;
import java.util.regex.Matcher;
import java.util.regex.Pattern;

/**
 * A second inn, written from the document apart from InnTurned and in another way: kinds are classes, all
 * orders are tried out by comings, images and what may be undone are whole copies. Slow, and plain to read.
 */
final class Plain {
    static class Guest {
        int kind, word, visits;
        boolean in;

        Guest copy() {
            Guest g = new Guest();
            g.kind = kind;
            g.word = word;
            g.visits = visits;
            g.in = in;
            return g;
        }
    }

    static class PlainKind {
        int likely(int w, int v, int n) {
            return w + w + v;
        }
    }

    static class Regular extends PlainKind {
        int likely(int w, int v, int n) {
            return super.likely(w, v, n) + 4;
        }
    }

    static class Poor extends PlainKind {
        int likely(int w, int v, int n) {
            return super.likely(w, v, n) / 2;
        }
    }

    static class King extends Regular {
        int likely(int w, int v, int n) {
            return super.likely(w, v, n) + (n % 7 == 4 ? 6 : 0);
        }
    }

    static class Beard extends PlainKind {
        int likely(int w, int v, int n) {
            int plain = super.likely(w, v, n);
            return w == 0 && plain > 3 ? 3 : plain;
        }
    }

    static class Prophet extends Poor {
        int likely(int w, int v, int n) {
            return super.likely(w, v, n) + (v < 2 ? 0 : 9);
        }
    }

    static class PlainHost {
        int lets(int x, int a) {
            return 8 - a;
        }
    }

    static class Keen extends PlainHost {
        int lets(int x, int a) {
            return super.lets(x, a) - 3;
        }
    }

    static class Drowsy extends PlainHost {
        int lets(int x, int a) {
            return super.lets(x, a) + x;
        }
    }

    static class Listening extends Keen {
        int lets(int x, int a) {
            return super.lets(x, a) - x;
        }
    }

    static class Sleeper extends Drowsy {
        int lets(int x, int a) {
            return x == 4 ? 99 : super.lets(x, a);
        }
    }

    static class Book extends Keen {
        int lets(int x, int a) {
            return super.lets(x, a) * (a == 0 ? 2 : 1);
        }
    }

    private static final PlainKind[] GUESTS =
        {new PlainKind(), new Regular(), new Poor(), new King(), new Beard(), new Prophet()};
    private static final PlainHost[] HOSTS =
        {new PlainHost(), new Keen(), new Drowsy(), new Listening(), new Sleeper(), new Book()};
    private static final Pattern TOKEN = Pattern.compile("[a-z]+|[0-9]+|;|[^ ]");

    static class State {
        int host, rooms = 3, night, wheels, turned;
        int[] wet = new int[6];
        List<Guest> guests = new ArrayList<>();
        List<int[]> seen = new ArrayList<>(), notes = new ArrayList<>(), marks = new ArrayList<>();
        Deque<State> past = new ArrayDeque<>();

        State copy(boolean withPast) {
            State s = new State();
            s.host = host;
            s.rooms = rooms;
            s.night = night;
            s.wheels = wheels;
            s.turned = turned;
            s.wet = wet.clone();
            for (Guest g : guests) s.guests.add(g.copy());
            s.seen.addAll(seen);
            s.notes.addAll(notes);
            s.marks.addAll(marks);
            if (withPast) s.past.addAll(past);
            return s;
        }

        long in() {
            return guests.stream().filter(g -> g.in).count();
        }

        int lets() {
            return HOSTS[host].lets(wet[night % 6], wheels);
        }

        int likely(Guest g) {
            return GUESTS[g.kind].likely(g.word, g.visits, night);
        }

        boolean comes(int i) {
            Guest g = guests.get(i);
            boolean let = in() < rooms && likely(g) <= lets();
            if (let) {
                g.in = true;
                if (g.visits < 99) g.visits++;
            } else if (turned < 9999) {
                turned++;
            }
            if (wheels < 99) wheels++;
            return let;
        }

        void nights(int n, int last) {
            for (int k = 0; k < n; k++) if (night < last) night++;
            wheels = 0;
        }

        void keep() {
            past.addLast(copy(false));
            if (past.size() > 8) past.removeFirst();
        }
    }

    private State s = new State();
    private final State[] images = new State[2];
    private final StringBuilder text = new StringBuilder();
    private long above = 0, below = 1;
    private final int[] status = new int[3];

    private int bad() {
        status[0]++;
        return -2;
    }

    private int no() {
        status[1]++;
        return -3;
    }

    private int full() {
        status[2]++;
        return -4;
    }

    private static boolean not(int x, int least, int most) {
        return x < least || x > most;
    }

    private boolean nobody(int i) {
        return not(i, 0, s.guests.size() - 1);
    }

    int inn(int kind, int rooms) {
        if (not(kind, 0, 5) || not(rooms, 0, 7)) return bad();
        int were = s.guests.size();
        s = new State();
        s.host = kind;
        s.rooms = rooms;
        return were;
    }

    int landlord(int kind) {
        if (not(kind, 0, 5)) return bad();
        int was = s.host;
        s.host = kind;
        s.past.clear();
        return was;
    }

    int wet(int n, int x) {
        if (not(n, 0, 5) || not(x, 0, 4)) return bad();
        int was = s.wet[n];
        s.wet[n] = x;
        s.past.clear();
        return was;
    }

    int one(int kind, int word) {
        if (not(kind, 0, 5) || not(word, 0, 9)) return bad();
        if (s.guests.size() == 7) return full();
        s.past.clear();
        Guest g = new Guest();
        g.kind = kind;
        g.word = word;
        s.guests.add(g);
        return s.guests.size() - 1;
    }

    int type(int c) {
        if (not(c, 0, 127)) return bad();
        if (text.length() == 150) return full();
        text.append((char) c);
        return text.length();
    }

    int clear() {
        int had = text.length();
        text.setLength(0);
        return had;
    }

    /** Each ITEM is read behind all that stand ahead of it; a place that is thrown is the FAULT. */
    int read() {
        try {
            Telling telling = new Telling();
            int items = telling.all();
            s = telling.t;
            return items;
        } catch (Fault fault) {
            return -10 - fault.place;
        }
    }

    @SuppressWarnings("serial")
    static class Fault extends Exception {
        final int place;

        Fault(int place) {
            this.place = place;
        }
    }

    class Telling {
        final List<String> tokens = new ArrayList<>();
        final List<Integer> places = new ArrayList<>();
        State t = new State();
        int at = 0;

        Telling() {
            Matcher m = TOKEN.matcher(text);
            while (m.find()) {
                tokens.add(m.group());
                places.add(m.start());
            }
        }

        int all() throws Fault {
            int items = 0;
            do {
                item(items);
                items++;
            } while (at < tokens.size());
            return items;
        }

        void item(int items) throws Fault {
            String word = take();
            if ((items == 0) != word.equals("inn")) stop();
            switch (word) {
                case "inn" -> {
                    t.host = number(0, 5);
                    t.rooms = number(0, 7);
                }
                case "wet" -> {
                    t.wet[0] = number(0, 4);
                    for (int n = 1; n < 6 && !ends(); n++) t.wet[n] = number(0, 4);
                }
                case "one" -> {
                    if (t.guests.size() == 7) stop();
                    Guest g = new Guest();
                    g.kind = number(0, 5);
                    g.word = number(0, 9);
                    t.guests.add(g);
                }
                case "come" -> {
                    int i = number(0, t.guests.size() - 1);
                    if (t.guests.get(i).in) stop();
                    t.comes(i);
                }
                case "go" -> {
                    int i = number(0, t.guests.size() - 1);
                    if (!t.guests.get(i).in) stop();
                    t.guests.get(i).in = false;
                }
                case "letter" -> {
                    Guest g = t.guests.get(number(0, t.guests.size() - 1));
                    g.word = number(0, 9);
                }
                case "nights" -> t.nights(number(1, 99), 9999);
                default -> stop();
            }
            if (!take().equals(";")) stop();
        }

        boolean ends() {
            return at < tokens.size() && tokens.get(at).equals(";");
        }

        String take() throws Fault {
            if (at >= tokens.size()) throw new Fault(text.length());
            return tokens.get(at++);
        }

        int number(int least, int most) throws Fault {
            String token = take();
            if (!token.matches("[0-9]{1,2}") || not(Integer.parseInt(token), least, most)) stop();
            return Integer.parseInt(token);
        }

        void stop() throws Fault {
            throw new Fault(places.get(at - 1));
        }
    }

    int comes(int i) {
        if (nobody(i)) return bad();
        if (s.guests.get(i).in) return no();
        s.keep();
        return s.comes(i) ? 1 : 0;
    }

    int goes(int i) {
        if (nobody(i)) return bad();
        if (!s.guests.get(i).in) return no();
        s.keep();
        s.guests.get(i).in = false;
        return (int) s.in();
    }

    int letter(int i, int word) {
        if (nobody(i) || not(word, 0, 9)) return bad();
        int was = s.guests.get(i).word;
        if (was == word) return no();
        s.keep();
        s.guests.get(i).word = word;
        return was;
    }

    int nights(int n) {
        if (not(n, 1, 99)) return bad();
        s.keep();
        s.nights(n, 9999);
        return s.night;
    }

    int undo() {
        if (s.past.isEmpty()) return no();
        Deque<State> past = s.past;
        State back = past.removeLast().copy(false);
        back.seen = s.seen;
        back.notes = s.notes;
        back.marks = s.marks;
        back.past = past;
        s = back;
        return s.night;
    }

    int of(int i, int what) {
        if (nobody(i) || not(what, 0, 4)) return bad();
        Guest g = s.guests.get(i);
        return new int[] {g.kind, g.word, g.visits, g.in ? 1 : 0, s.likely(g)}[what];
    }

    int now(int what) {
        if (not(what, 0, 5)) return bad() - 998;
        return new int[] {s.host, s.rooms, s.wheels, s.turned, s.lets(), s.wet[s.night % 6]}[what];
    }

    int may() {
        int bits = 0;
        for (int i = 0; i < s.guests.size(); i++) {
            if (!s.guests.get(i).in && s.copy(false).comes(i)) bits |= 1 << i;
        }
        return bits;
    }

    int when(int i) {
        if (nobody(i)) return bad();
        if (s.guests.get(i).in) return -1;
        for (int ahead = 0; ahead <= 60; ahead++) {
            State then = s.copy(false);
            if (ahead > 0) then.nights(ahead, Integer.MAX_VALUE);
            if (then.comes(i)) return ahead;
        }
        return -1;
    }

    int pen(int i) {
        if (nobody(i)) return bad();
        if (s.guests.get(i).in) return -1;
        int greatest = -1;
        for (int w = 0; w <= 9; w++) {
            State then = s.copy(false);
            then.guests.get(i).word = w;
            if (then.comes(i)) greatest = w;
        }
        return greatest;
    }

    int order(int k) {
        if (k < -1) return bad() - 8;
        Orders orders = new Orders();
        orders.tryAll(new ArrayList<>());
        if (k == -1) return orders.most;
        return k < orders.first.size() ? orders.first.get(k) : -5;
    }

    /** All orders rising; only a better one takes the place of one found, so the first of the best is left. */
    class Orders {
        int most = -1;
        List<Integer> first = new ArrayList<>();

        void tryAll(List<Integer> ahead) {
            boolean over = true;
            for (int i = 0; i < s.guests.size(); i++) {
                if (s.guests.get(i).in || ahead.contains(i)) continue;
                over = false;
                ahead.add(i);
                tryAll(ahead);
                ahead.remove(ahead.size() - 1);
            }
            if (!over) return;
            int let = letIn(ahead);
            if (let > most) {
                most = let;
                first = new ArrayList<>(ahead);
            }
        }

        int letIn(List<Integer> order) {
            State then = s.copy(false);
            int let = 0;
            for (int i : order) if (then.comes(i)) let++;
            return let;
        }
    }

    int seen(int i, int w, int n, int in) {
        if (nobody(i) || not(w, 0, 9) || not(n, 0, 99) || not(in, 0, 1)) return bad();
        return write(s.seen, 5, i, w, n, in);
    }

    int note(int i, int w, int v, int n, int x) {
        if (nobody(i) || not(w, 0, 9) || not(v, 0, 9) || not(n, 0, 99) || not(x, 0, 60)) return bad();
        return write(s.notes, 6, i, w, v, n, x);
    }

    int mark(int x, int a, int y) {
        if (not(x, 0, 4) || not(a, 0, 9) || not(y, -20, 99)) return bad();
        return write(s.marks, 6, x, a, y);
    }

    private int write(List<int[]> rows, int most, int... row) {
        if (rows.size() == most) return full();
        rows.add(row);
        return rows.size();
    }

    int forget(int what) {
        if (not(what, 0, 2)) return bad();
        List<int[]> rows = what == 0 ? s.seen : what == 1 ? s.notes : s.marks;
        int were = rows.size();
        rows.clear();
        return were;
    }

    private boolean let(int i, int w, int v, int n) {
        return GUESTS[s.guests.get(i).kind].likely(w, v, n) <= HOSTS[s.host].lets(s.wet[n % 6], 0);
    }

    private List<Integer> visits(int i) {
        List<Integer> fit = new ArrayList<>();
        for (int v = 0; v <= 30; v++) {
            int visits = v;
            if (s.seen.stream().filter(r -> r[0] == i).allMatch(r -> let(i, r[1], visits, r[2]) == (r[3] == 1))) fit.add(v);
        }
        return fit;
    }

    int often(int i, int what) {
        if (nobody(i) || not(what, 0, 2)) return bad();
        List<Integer> fit = visits(i);
        if (what == 0) return fit.size();
        if (fit.isEmpty()) return -1;
        return what == 1 ? fit.get(0) : fit.get(fit.size() - 1);
    }

    int tell(int i) {
        if (nobody(i)) return bad();
        List<Integer> fit = visits(i);
        if (fit.isEmpty()) return -1;
        int best = -1;
        long least = 99;
        for (int code = 0; code < 140; code++) {
            int w = code % 10, n = code / 10;
            long in = fit.stream().filter(v -> let(i, w, v, n)).count();
            long greater = Math.max(in, fit.size() - in);
            if (greater < least) {
                least = greater;
                best = code;
            }
        }
        return best;
    }

    int is(int i) {
        if (nobody(i)) return bad();
        int bits = 0;
        for (int kind = 0; kind < 6; kind++) {
            PlainKind k = GUESTS[kind];
            if (s.notes.stream().allMatch(r -> r[0] != i || k.likely(r[1], r[2], r[3]) == r[4])) bits += 1 << kind;
        }
        return bits;
    }

    int look(int i) {
        if (nobody(i)) return bad();
        int bits = is(i), best = -1;
        long fewest = 99;
        for (int v = 0; bits != 0 && v <= 9; v++) {
            for (int n = 0; n <= 6; n++) {
                List<Integer> answers = new ArrayList<>();
                for (int kind = 0; kind < 6; kind++) {
                    if ((bits & 1 << kind) != 0) answers.add(GUESTS[kind].likely(s.guests.get(i).word, v, n));
                }
                if (alike(answers) < fewest) {
                    fewest = alike(answers);
                    best = 100 * v + n;
                }
            }
        }
        return best;
    }

    private static long alike(List<Integer> answers) {
        return answers.stream().mapToLong(a -> answers.stream().filter(a::equals).count()).max().orElse(0);
    }

    int kinds() {
        int bits = 0;
        for (int kind = 0; kind < 6; kind++) {
            PlainHost k = HOSTS[kind];
            if (s.marks.stream().allMatch(r -> k.lets(r[0], r[1]) == r[2])) bits += 1 << kind;
        }
        return bits;
    }

    int ask() {
        int bits = kinds(), best = -1;
        long fewest = 99;
        for (int code = 0; bits != 0 && code < 50; code++) {
            List<Integer> answers = new ArrayList<>();
            for (int kind = 0; kind < 6; kind++) {
                if ((bits & 1 << kind) != 0) answers.add(HOSTS[kind].lets(code / 10, code % 10));
            }
            if (alike(answers) < fewest) {
                fewest = alike(answers);
                best = code;
            }
        }
        return best;
    }

    int door(int i) {
        if (nobody(i)) return bad();
        Guest g = s.guests.get(i);
        if (g.in) return no();
        boolean known = s.likely(g) > s.lets();
        int[] guest = {0, 5, 0, known ? -3 : 5};
        int[] host = {0, known ? -4 : 0, -2, known ? 4 : -2};
        int bits = 0;
        for (int pair = 0; pair < 4; pair++) {
            if (guest[pair] >= guest[pair ^ 1] && host[pair] >= host[pair ^ 2]) bits |= 1 << pair;
        }
        return bits;
    }

    int rain(int i, int c) {
        if (nobody(i) || not(c, 0, 10)) return bad();
        if (s.guests.get(i).in) return no();
        State rainy = s.copy(false);
        rainy.wet[s.night % 6] = 4;
        long tenths = (rainy.comes(i) ? c : 0) + (s.copy(false).comes(i) ? 10 - c : 0);
        long divisor = java.math.BigInteger.valueOf(tenths).gcd(java.math.BigInteger.TEN).longValue();
        above = tenths / divisor;
        below = 10 / divisor;
        return 1;
    }

    int decades(int seed, int n) {
        if (not(seed, 0, 999999) || not(n, 0, 60)) return bad();
        State then = s.copy(false);
        long x = seed;
        for (int k = 0; k < n; k++) {
            x = (x * 1103515245L + 12345L) & 0x7fffffffL;
            int i = (int) (x >> 16 & 7);
            if (i >= then.guests.size()) then.nights(1, Integer.MAX_VALUE);
            else if (then.guests.get(i).in) then.guests.get(i).in = false;
            else then.comes(i);
        }
        return (int) then.in();
    }

    long part(int what) {
        if (not(what, 0, 1)) return bad();
        return what == 0 ? above : below;
    }

    int image(int i) {
        if (not(i, 0, 1)) return bad();
        images[i] = s.copy(true);
        return 1;
    }

    int from(int i) {
        if (not(i, 0, 1)) return bad();
        if (images[i] == null) return no();
        s = images[i].copy(true);
        return 1;
    }

    int status(int what) {
        if (not(what, 0, 2)) return bad() + 1;
        return status[what];
    }

    int count(int what) {
        if (not(what, 0, 8)) return bad();
        return (int) counts()[what];
    }

    private long[] counts() {
        long visits = s.guests.stream().mapToLong(g -> g.visits).sum();
        return new long[] {s.guests.size(), s.in(), s.night, visits, s.seen.size(), s.notes.size(), s.marks.size(),
            s.past.size(), text.length()};
    }

    long digest() {
        List<Long> values = new ArrayList<>();
        for (long c : counts()) values.add(c);
        for (int v : new int[] {s.host, s.rooms, s.wheels, s.turned}) values.add((long) v);
        for (int v : s.wet) values.add((long) v);
        for (Guest g : s.guests) for (int v : new int[] {g.kind, g.word, g.visits, g.in ? 1 : 0}) values.add((long) v);
        for (List<int[]> rows : List.of(s.seen, s.notes, s.marks)) for (int[] row : rows) for (int v : row) values.add((long) v);
        values.add(above);
        values.add(below);
        long h = 1709;
        for (long v : values) h = 31 * h + v;
        return h;
    }
}
