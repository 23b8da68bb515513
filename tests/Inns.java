import java.lang.reflect.Method;
import java.util.Arrays;
import java.util.HashMap;
import java.util.Map;

/** Inns that several tests begin with, and how to call one by a name. */
final class Inns {
    private static final Map<String, Method> METHODS = new HashMap<>();

    private Inns() {
    }

    /**
     * All that can be full is so: 7 travellers (0, 1 and 2 are in), SEEN, NOTES, MARKS, THE TEXT, 8 that may be
     * undone. Both images are kept, and differ; all the numbers differ from those of a new inn.
     */
    static InnTurned full() {
        InnTurned x = new InnTurned();
        x.inn(2, 5);
        for (int n = 0; n < 6; n++) x.wet(n, 4 - n % 3);
        for (int i = 0; i < 5; i++) x.one(i, i % 3);
        x.comes(1);
        x.image(0);
        x.one(5, 2);
        x.one(0, 5);
        type(x, "inn 1 2;wet 0 3;one 0 3;one 1 0;come 1;nights 3;", 150);
        for (int k = 0; k < 5; k++) x.seen(k, 9 - k, 99 - k, k % 2);
        for (int k = 0; k < 6; k++) x.note(k, k, 9 - k, 90 + k, 60 - k);
        for (int k = 0; k < 6; k++) x.mark(k % 5, 9 - k, k % 2 == 0 ? -20 + k : 99 - k);
        x.comes(0);
        x.letter(3, 7);
        x.nights(2);
        x.comes(3);
        x.image(1);
        x.comes(2);
        x.comes(4);
        x.goes(4);
        x.nights(98);
        x.comes(3);
        x.comes(3);
        x.rain(6, 3);
        return x;
    }

    /** Two travellers, 0 in and 1 out; one is left to undo, image 1 alone is kept. */
    static InnTurned pair() {
        InnTurned x = Due.told("inn 0 2;one 0 1;one 0 5;");
        x.image(1);
        x.rain(0, 3);
        x.comes(0);
        return x;
    }

    /** On NIGHT 9999, by as many calls as it takes. */
    static InnTurned late(String text) {
        InnTurned x = Due.told(text);
        for (int k = 0; k < 101; k++) x.nights(99);
        Due.due("the last night", x.count(2), 9999);
        return x;
    }

    /**
     * One traveller, who has been in so often, by a sleeper who lets 99 pass; with a room for each. The word comes
     * last: with no word most can be in as often as may be (of those under REGULAR he lets none in behind 96).
     */
    static InnTurned visited(int kind, int word, int visits) {
        InnTurned x = Due.told("inn 4 7;wet 4 4 4 4 4 4;one " + kind + " 0;");
        for (int v = 0; v < visits; v++) {
            x.comes(0);
            x.goes(0);
        }
        Due.due("visits", x.of(0, 2), Math.min(visits, kind == 1 || kind == 3 ? 96 : 99));
        if (word > 0) x.letter(0, word);
        return x;
    }

    /** Types the text with blanks behind it, so many bytes in all. */
    static void type(InnTurned x, String text, int bytes) {
        x.clear();
        for (int k = 0; k < bytes; k++) x.type(k < text.length() ? text.charAt(k) : ' ');
    }

    /** Calls by name, with as many of the numbers as it takes. */
    static long ask(Object inn, String name, Integer... numbers) {
        Method method = METHODS.computeIfAbsent(inn.getClass().getName() + "." + name, key -> methodOf(inn, name));
        try {
            return ((Number) method.invoke(inn, Arrays.copyOf(numbers, method.getParameterCount(), Object[].class))).longValue();
        } catch (ReflectiveOperationException e) {
            throw new IllegalStateException(name + Arrays.toString(numbers), e);
        }
    }

    private static Method methodOf(Object inn, String name) {
        for (Method method : inn.getClass().getDeclaredMethods()) {
            if (method.getName().equals(name)) return method;
        }
        throw new IllegalArgumentException(name);
    }

    /**
     * What can be seen of an inn by later calls but for its status: what it is, behind each that is undone, in
     * both images and behind those, and what its text tells. Uses the inn up.
     */
    static long[] trace(InnTurned x) {
        long[] seen = new long[64];
        int at = undone(x, seen, 0);
        for (int i = 0; i < 2; i++) {
            seen[at++] = x.from(i);
            at = undone(x, seen, at);
        }
        seen[at++] = x.read();
        seen[at++] = x.digest();
        return Arrays.copyOf(seen, at);
    }

    private static int undone(InnTurned x, long[] seen, int begin) {
        int at = begin;
        seen[at++] = x.digest();
        for (int k = 0; k < 9; k++) {
            seen[at++] = x.undo();
            seen[at++] = x.digest();
        }
        return at;
    }
}
