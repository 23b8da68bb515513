import java.util.Arrays;

/**
 * "Refused, changing nothing but STATUS, the first of: BAD -2 a number is not as told; NO -3 as told; FULL -4
 * (where others are told they count as these)." Every call, each of its numbers at both ends and beyond them.
 */
public final class RefusedTest {
    private static final int MIN = Integer.MIN_VALUE, MAX = Integer.MAX_VALUE;

    /** In place of a greatest number: that of the last TRAVELLER. */
    private static final int GUEST = MAX - 1;

    /** A call, what it answers to a number not as told, and the least and the greatest of each number. */
    record Call(String name, int bad, int... ends) {
    }

    private static final Call[] CALLS = {
        new Call("inn", -2, 0, 5, 0, 7), new Call("landlord", -2, 0, 5), new Call("wet", -2, 0, 5, 0, 4),
        new Call("one", -2, 0, 5, 0, 9), new Call("type", -2, 0, 127), new Call("comes", -2, 0, GUEST),
        new Call("goes", -2, 0, GUEST), new Call("letter", -2, 0, GUEST, 0, 9), new Call("nights", -2, 1, 99),
        new Call("of", -2, 0, GUEST, 0, 4), new Call("now", -1000, 0, 5), new Call("when", -2, 0, GUEST),
        new Call("pen", -2, 0, GUEST), new Call("order", -10, -1, MAX),
        new Call("seen", -2, 0, GUEST, 0, 9, 0, 99, 0, 1), new Call("often", -2, 0, GUEST, 0, 2),
        new Call("tell", -2, 0, GUEST), new Call("note", -2, 0, GUEST, 0, 9, 0, 9, 0, 99, 0, 60),
        new Call("mark", -2, 0, 4, 0, 9, -20, 99), new Call("forget", -2, 0, 2), new Call("is", -2, 0, GUEST),
        new Call("look", -2, 0, GUEST), new Call("door", -2, 0, GUEST), new Call("rain", -2, 0, GUEST, 0, 10),
        new Call("decades", -2, 0, 999999, 0, 60), new Call("part", -2, 0, 1), new Call("image", -2, 0, 1),
        new Call("from", -2, 0, 1), new Call("status", -1, 0, 2), new Call("count", -2, 0, 8)};

    private static final int NEW = 0, PAIR = 1, FULL = 2, INNS = 3;
    private static final long[][] TRACES = new long[INNS][];

    public static void main(String[] args) {
        for (int sort = 0; sort < INNS; sort++) TRACES[sort] = Inns.trace(inn(sort));
        for (int sort = 0; sort < INNS; sort++) {
            for (Call call : CALLS) bads(sort, call);
        }
        for (Call call : CALLS) ends(call);
        noneIsThere();
        nos();
        fulls();
        badGoesAheadOfNo();
        badGoesAheadOfFull();
        noRefusals();
        Due.end();
    }

    private static InnTurned inn(int sort) {
        return sort == NEW ? new InnTurned() : sort == PAIR ? Inns.pair() : Inns.full();
    }

    private static int most(int sort, int told) {
        return told == GUEST ? new int[] {-1, 1, 6}[sort] : told;
    }

    /** The other numbers are at their least, then at their greatest. */
    private static void bads(int sort, Call call) {
        for (int p = 0; p < call.ends().length / 2; p++) {
            int least = call.ends()[2 * p], most = most(sort, call.ends()[2 * p + 1]);
            for (int others = 0; others < 2; others++) {
                bad(sort, call, p, others, least - 1);
                bad(sort, call, p, others, MIN);
                if (most == MAX) continue;
                bad(sort, call, p, others, most + 1);
                bad(sort, call, p, others, MAX);
            }
        }
    }

    private static void bad(int sort, Call call, int place, int others, int number) {
        Integer[] numbers = numbers(sort, call, others);
        numbers[place] = number;
        refused(sort, call.bad(), 0, call.name(), numbers);
    }

    private static Integer[] numbers(int sort, Call call, int others) {
        Integer[] numbers = new Integer[call.ends().length / 2];
        for (int p = 0; p < numbers.length; p++) numbers[p] = most(sort, call.ends()[2 * p + others]);
        return numbers;
    }

    /** The answer, which status it counts as, and that all else is as it was. */
    private static void refused(int sort, long due, int status, String name, Integer... numbers) {
        Due.promise("refused, changing nothing but STATUS, inn " + sort);
        String call = name + Arrays.toString(numbers);
        InnTurned x = inn(sort);
        int[] was = {x.status(0), x.status(1), x.status(2)};
        Due.due(call, Inns.ask(x, name, numbers), due);
        for (int k = 0; k < 3; k++) {
            Due.due("status(" + k + ") behind " + call, x.status(k), was[k] + (k == status ? 1 : 0));
        }
        long[] trace = Inns.trace(x);
        for (int k = 0; k < trace.length; k++) Due.due("answer " + k + " behind " + call, trace[k], TRACES[sort][k]);
    }

    /** A number at an end of what is told is not BAD. */
    private static void ends(Call call) {
        Due.promise("a number as told is no BAD");
        for (int p = 0; p < call.ends().length / 2; p++) {
            for (int end = 0; end < 2; end++) {
                for (int others = 0; others < 2; others++) {
                    for (int sort = PAIR; sort <= FULL; sort++) {
                        Integer[] numbers = numbers(sort, call, others);
                        numbers[p] = most(sort, call.ends()[2 * p + end]);
                        InnTurned x = inn(sort);
                        Inns.ask(x, call.name(), numbers);
                        Due.due(call.name() + Arrays.toString(numbers), x.status(0), 0);
                    }
                }
            }
        }
    }

    /** With no TRAVELLER each number of one is not as told. */
    private static void noneIsThere() {
        for (Call call : CALLS) {
            if (call.ends()[1] != GUEST) continue;
            Integer[] numbers = numbers(NEW, call, 0);
            for (int i = -1; i <= 7; i++) {
                numbers[0] = i;
                refused(NEW, -2, 0, call.name(), numbers);
            }
        }
    }

    private static void nos() {
        refused(NEW, -3, 1, "undo");
        refused(NEW, -3, 1, "from", 0);
        refused(NEW, -3, 1, "from", 1);
        refused(PAIR, -3, 1, "from", 0);
        refused(PAIR, -3, 1, "goes", 1);
        for (int sort = PAIR; sort <= FULL; sort++) {
            refused(sort, -3, 1, "comes", 0);
            refused(sort, -3, 1, "door", 0);
            refused(sort, -3, 1, "rain", 0, 0);
            refused(sort, -3, 1, "rain", 0, 10);
        }
        refused(PAIR, -3, 1, "letter", 0, 1);
        refused(PAIR, -3, 1, "letter", 1, 5);
        for (int i = 3; i < 7; i++) refused(FULL, -3, 1, "goes", i);
        int[] words = {0, 1, 2, 7, 1, 2, 5};
        for (int i = 0; i < 7; i++) refused(FULL, -3, 1, "letter", i, words[i]);
        InnTurned x = Inns.full();
        for (int k = 0; k < 8; k++) x.undo();
        Due.due("behind the eighth undo none may be", x.undo(), -3);
        Due.due("nos", x.status(1), 1);
    }

    private static void fulls() {
        refused(FULL, -4, 2, "one", 0, 0);
        refused(FULL, -4, 2, "one", 5, 9);
        refused(FULL, -4, 2, "type", 0);
        refused(FULL, -4, 2, "type", 127);
        refused(FULL, -4, 2, "seen", 0, 0, 0, 0);
        refused(FULL, -4, 2, "seen", 6, 9, 99, 1);
        refused(FULL, -4, 2, "note", 0, 0, 0, 0, 0);
        refused(FULL, -4, 2, "note", 6, 9, 9, 99, 60);
        refused(FULL, -4, 2, "mark", 0, 0, -20);
        refused(FULL, -4, 2, "mark", 4, 9, 99);
    }

    private static void badGoesAheadOfNo() {
        refused(FULL, -2, 0, "rain", 0, 11);
        refused(FULL, -2, 0, "rain", 0, -1);
        refused(FULL, -2, 0, "letter", 7, 0);
        refused(NEW, -2, 0, "from", 2);
        refused(NEW, -2, 0, "from", -1);
    }

    private static void badGoesAheadOfFull() {
        refused(FULL, -2, 0, "one", 6, 0);
        refused(FULL, -2, 0, "one", 0, 10);
        refused(FULL, -2, 0, "type", 128);
        refused(FULL, -2, 0, "seen", 7, 0, 0, 0);
        refused(FULL, -2, 0, "seen", 0, 0, 0, 2);
        refused(FULL, -2, 0, "note", 0, 0, 0, 0, 61);
        refused(FULL, -2, 0, "mark", 0, 0, 100);
    }

    /** NONE, -5, a FAULT, 0 of something: these are answers, no refusals. */
    private static void noRefusals() {
        answers(FULL, -5, "order", 4);
        answers(FULL, -5, "order", MAX);
        answers(NEW, -5, "order", 0);
        answers(FULL, -1, "when", 0);
        answers(FULL, -1, "pen", 0);
        answers(FULL, -1, "ask");
        answers(FULL, 0, "kinds");
        answers(FULL, -1, "look", 0);
        answers(FULL, 0, "is", 0);
        answers(NEW, -10, "read");
        answers(NEW, 0, "clear");
        answers(NEW, 0, "may");
        answers(NEW, 0, "forget", 0);
        answers(NEW, 0, "inn", 0, 0);
        InnTurned x = Due.told("inn 0 3;one 0 0;");
        x.seen(0, 0, 0, 0);
        x.seen(0, 0, 0, 1);
        Due.due("often(0, 0)", x.often(0, 0), 0);
        Due.due("often(0, 1)", x.often(0, 1), -1);
        Due.due("often(0, 2)", x.often(0, 2), -1);
        Due.due("tell(0)", x.tell(0), -1);
        for (int k = 0; k < 3; k++) Due.due("status(" + k + ")", x.status(k), 0);
    }

    private static void answers(int sort, long due, String name, Integer... numbers) {
        Due.promise("an answer, no refusal");
        InnTurned x = inn(sort);
        Due.due(name + Arrays.toString(numbers), Inns.ask(x, name, numbers), due);
        for (int k = 0; k < 3; k++) Due.due("status(" + k + ") behind " + name, x.status(k), 0);
    }
}
