/** Promises 16 to 19: who may, when, with what word, in which order. */
public final class LetInTest {
    public static void main(String[] args) {
        may();
        when();
        pen();
        order();
        orderByRooms();
        Due.end();
    }

    private static void may() {
        Due.promise("promise 16");
        InnTurned x = Due.told("inn 0 2;one 0 4;one 0 5;one 2 8;one 1 2;one 1 3;");
        Due.due("may()", x.may(), 1 + 4 + 8);
        x.comes(1);
        Due.due("one less is let pass", x.may(), 0);
        x.nights(1);
        Due.due("may()", x.may(), 1 + 4 + 8);
        x.comes(2);
        x.nights(1);
        Due.due("who is in may not", x.may(), 1 + 8);
        x.comes(0);
        x.nights(1);
        Due.due("no room", x.may(), 0);
        x.goes(2);
        Due.due("a room", x.may(), 4 + 8);
    }

    private static void when() {
        Due.promise("promise 17");
        InnTurned x = Due.told("inn 2 2;wet 0 0 1 0 0 4;one 0 4;one 3 6;one 0 9;one 3 2;one 0 0;");
        Due.due("now", x.when(0), 0);
        Due.due("in the wettest", x.when(1), -1);
        Due.due("never", x.when(2), -1);
        x.comes(2);
        Due.due("with the wheels as now", x.when(0), 1);
        x.letter(0, 6);
        Due.due("12 of 12 on night 5", x.when(0), 5);
        Due.due("a king of 8", x.when(3), 1);
        x.nights(4);
        Due.due("a king of 14 on night 4", x.when(3), 1);
        x.letter(3, 4);
        Due.due("a king of 12 on night 5", x.when(3), 1);
        x.nights(1);
        Due.due("first thing tonight", x.when(3), 0);
        x.comes(2);
        Due.due("six nights on, night 11, he is 18", x.when(3), 12);
        Due.due("changes nothing", x.count(2), 5);
        x.comes(4);
        Due.due("one is in", x.when(4), -1);
        x.comes(3);
        x.nights(6);
        x.comes(0);
        Due.due("two in", x.count(1), 2);
        x.letter(1, 0);
        Due.due("no room tonight", x.when(1), -1);
        x.inn(0, 0);
        x.one(0, 0);
        Due.due("no room", x.when(0), -1);
        Due.due("not there", x.when(1), -2);
        Due.due("below", x.when(-1), -2);
        farAhead();
    }

    /** WET and the KING's night go round together in 42 nights, so that one may have to wait long. */
    private static void farAhead() {
        InnTurned x = Due.told("inn 2 1;wet 4;one 3 4;nights 1;");
        Due.due("12 of 12 on night 6", x.when(0), 5);
        x = Due.told("inn 0 1;one 0 9;");
        x.landlord(4);
        x.wet(3, 4);
        x.nights(4);
        Due.due("the sleeper sleeps on night 9", x.when(0), 5);
        x = Due.told("inn 2 1;wet 4;one 3 4;one 0 9;come 1;nights 12;come 1;");
        Due.due("on night 18 he is 18, so on night 24", x.when(0), 12);
    }

    private static void pen() {
        Due.promise("promise 18");
        InnTurned x = Due.told("inn 0 1;one 0 9;one 1 9;one 2 9;one 4 9;one 5 9;");
        Due.due("plain", x.pen(0), 4);
        Due.due("regular", x.pen(1), 2);
        Due.due("poor", x.pen(2), 8);
        Due.due("beard", x.pen(3), 4);
        Due.due("prophet", x.pen(4), 8);
        Due.due("changes nothing", x.of(0, 1), 9);
        for (int k = 0; k < 3; k++) x.comes(0);
        Due.due("plain, of 5", x.pen(0), 2);
        Due.due("regular, of 5", x.pen(1), 0);
        x.comes(0);
        Due.due("regular, of 4", x.pen(1), 0);
        x.comes(0);
        Due.due("regular, of 3", x.pen(1), -1);
        x.nights(1);
        x.letter(2, 0);
        x.comes(2);
        Due.due("one is in", x.pen(2), -1);
        Due.due("no room", x.pen(0), -1);
        Due.due("not there", x.pen(5), -2);
        Due.due("below", x.pen(-1), -2);
        x = Due.told("inn 4 7;wet 4;one 4 0;come 0;go 0;come 0;go 0;come 0;go 0;come 0;go 0;nights 1;");
        x.landlord(1);
        Due.due("a beard of four visits, of 5", x.pen(0), 0);
        x.one(0, 9);
        x.comes(1);
        x.comes(1);
        Due.due("a beard with no word is 3 at most", x.pen(0), 0);
        x.comes(1);
        Due.due("a beard of 3, of 2", x.pen(0), -1);
    }

    private static void order() {
        Due.promise("promise 19");
        InnTurned x = Due.told("inn 0 3;");
        Due.due("nobody", x.order(-1), 0);
        Due.due("nobody first", x.order(0), -5);
        orderIs(Due.told("inn 0 7;one 0 0;one 0 4;one 0 2;"), 3, 1, 0, 2);
        orderIs(Due.told("inn 0 7;one 0 4;one 0 4;one 0 3;"), 2, 0, 1, 2);
        orderIs(Due.told("inn 0 7;one 0 9;one 0 8;one 0 7;"), 0, 0, 1, 2);
        orderIs(Due.told("inn 0 7;one 0 4;one 0 0;one 0 0;come 1;"), 1, 0, 2);
        orderIs(Due.told("inn 0 7;one 0 3;one 0 0;one 0 0;come 1;"), 2, 0, 2);
        orderIs(Due.told("inn 5 7;one 0 5;one 1 0;one 0 2;one 0 5;one 2 2;"), 3, 0, 1, 2, 4, 3);
        InnTurned y = Due.told("inn 0 7;one 0 9;one 0 4;one 0 0;");
        orderIs(y, 2, 1, 0, 2);
        y.comes(1);
        orderIs(y, 1, 0, 2);
        y.comes(2);
        orderIs(y, 0, 0);
        y.inn(0, 7);
        orderIs(y, 0);
        Due.due("below NONE", x.order(-2), -10);
        Due.due("counts as BAD", x.status(0), 1);
        Due.due("not so many is no BAD", x.order(7), -5);
        Due.due("far too many", x.order(Integer.MAX_VALUE), -5);
        Due.due("far below", x.order(Integer.MIN_VALUE), -10);
        Due.due("counts as BAD", x.status(0), 2);
    }

    private static void orderByRooms() {
        orderIs(Due.told("inn 0 0;one 0 0;one 0 0;"), 0, 0, 1);
        orderIs(Due.told("inn 0 1;one 0 4;one 0 4;one 0 0;"), 1, 0, 1, 2);
        orderIs(Due.told("inn 0 2;one 0 9;one 0 4;one 0 4;one 0 3;one 0 0;"), 2, 0, 1, 3, 2, 4);
        orderIs(Due.told("inn 0 2;one 0 0;one 0 3;one 0 3;come 0;"), 1, 1, 2);
        orderIs(Due.told("inn 0 1;one 0 0;one 0 3;come 0;"), 0, 1);
    }

    private static void orderIs(InnTurned x, int in, int... order) {
        long was = x.digest();
        Due.due("order(-1)", x.order(-1), in);
        for (int k = 0; k < order.length; k++) Due.due("order(" + k + ")", x.order(k), order[k]);
        Due.due("no more", x.order(order.length), -5);
        Due.due("nothing is changed", x.digest(), was);
    }
}
