/** Promises 1 to 8: a new inn, what is told of it by calls and by a text. */
public final class InnTest {
    public static void main(String[] args) {
        aNewObject();
        inn();
        landlord();
        wet();
        one();
        type();
        readOrdinary();
        readEdges();
        readFaults();
        readFaultsKeepAll();
        Due.end();
    }

    private static void aNewObject() {
        Due.promise("promise 1");
        InnTurned x = new InnTurned();
        int[] nows = {0, 3, 0, 0, 8, 0};
        for (int k = 0; k < 6; k++) Due.due("now(" + k + ")", x.now(k), nows[k]);
        for (int k = 0; k < 9; k++) Due.due("count(" + k + ")", x.count(k), 0);
        for (int k = 0; k < 3; k++) Due.due("status(" + k + ")", x.status(k), 0);
        Due.due("part(0)", x.part(0), 0);
        Due.due("part(1)", x.part(1), 1);
        Due.due("may()", x.may(), 0);
        Due.due("kinds()", x.kinds(), 63);
        Due.due("undo()", x.undo(), -3);
        Due.due("from(0)", x.from(0), -3);
        Due.due("from(1)", x.from(1), -3);
        for (int n = 0; n < 6; n++) Due.due("wet was", x.wet(n, 0), 0);
    }

    private static void inn() {
        Due.promise("promise 2");
        InnTurned x = new InnTurned();
        x.wet(0, 4);
        Due.due("inn(5, 7)", x.inn(5, 7), 0);
        Due.due("dry again", x.now(5), 0);
        Due.due("kind", x.now(0), 5);
        Due.due("rooms", x.now(1), 7);
        Due.due("inn(0, 0)", x.inn(0, 0), 0);
        Due.due("inn(-1, 0)", x.inn(-1, 0), -2);
        Due.due("inn(6, 0)", x.inn(6, 0), -2);
        Due.due("inn(0, -1)", x.inn(0, -1), -2);
        Due.due("inn(0, 8)", x.inn(0, 8), -2);
        Due.due("bads", x.status(0), 4);
        fill(x);
        Due.due("inn takes all else", x.inn(2, 1), 2);
        long[] counts = {0, 0, 0, 0, 0, 0, 0, 0, 1};
        for (int k = 0; k < 9; k++) Due.due("count(" + k + ")", x.count(k), counts[k]);
        int[] nows = {2, 1, 0, 0, 8, 0};
        for (int k = 0; k < 6; k++) Due.due("now(" + k + ")", x.now(k), nows[k]);
        for (int n = 0; n < 6; n++) Due.due("wet " + n, x.wet(n, 0), 0);
        Due.due("the fraction stays", x.part(0) * 100 + x.part(1), 305);
        Due.due("the status stays", x.status(0), 4);
        Due.due("the image stays", x.from(1), 1);
        Due.due("it goes on", x.count(0), 2);
    }

    /** Something of each sort: a landlord, wet nights, two travellers, one in, a night, rows, an image, a fraction, a byte. */
    private static void fill(InnTurned x) {
        x.inn(2, 3);
        for (int n = 0; n < 6; n++) x.wet(n, 3);
        x.wet(0, 0);
        x.one(0, 5);
        x.one(0, 0);
        x.rain(0, 6);
        x.comes(0);
        x.comes(1);
        x.nights(1);
        x.seen(0, 0, 0, 1);
        x.note(0, 0, 0, 0, 0);
        x.mark(0, 0, 0);
        x.type(59);
        x.image(1);
    }

    private static void landlord() {
        Due.promise("promise 3");
        InnTurned x = new InnTurned();
        Due.due("landlord(1)", x.landlord(1), 0);
        Due.due("landlord(5)", x.landlord(5), 1);
        Due.due("landlord(5) again", x.landlord(5), 5);
        Due.due("landlord(-1)", x.landlord(-1), -2);
        Due.due("landlord(6)", x.landlord(6), -2);
        Due.due("stays", x.now(0), 5);
        x.wet(0, 2);
        int[] lets = {8, 5, 10, 3, 10, 10};
        int[] letsWithTwo = {6, 3, 8, 1, 8, 3};
        int[] letsWettest = {6, 3, 10, -1, 99, 3};
        for (int kind = 0; kind < 6; kind++) {
            x.landlord(kind);
            Due.due("lets pass, kind " + kind, x.now(4), lets[kind]);
        }
        x.one(0, 9);
        x.comes(0);
        x.comes(0);
        Due.due("wheels", x.now(2), 2);
        for (int kind = 0; kind < 6; kind++) {
            x.landlord(kind);
            Due.due("lets pass with two wheels, kind " + kind, x.now(4), letsWithTwo[kind]);
        }
        x.wet(0, 4);
        for (int kind = 0; kind < 6; kind++) {
            x.landlord(kind);
            Due.due("lets pass when wettest, kind " + kind, x.now(4), letsWettest[kind]);
        }
        Due.due("travellers stay", x.count(0), 1);
        x.wet(0, 3);
        x.landlord(4);
        Due.due("a sleeper is drowsy below 4", x.now(4), 9);
    }

    private static void wet() {
        Due.promise("promise 4");
        InnTurned x = new InnTurned();
        Due.due("wet(0, 4)", x.wet(0, 4), 0);
        Due.due("wet(0, 2)", x.wet(0, 2), 4);
        Due.due("wet(5, 1)", x.wet(5, 1), 0);
        Due.due("wet(5, 1) again", x.wet(5, 1), 1);
        Due.due("wet(-1, 0)", x.wet(-1, 0), -2);
        Due.due("wet(6, 0)", x.wet(6, 0), -2);
        Due.due("wet(0, -1)", x.wet(0, -1), -2);
        Due.due("wet(0, 5)", x.wet(0, 5), -2);
        Due.due("now", x.now(5), 2);
        x.nights(5);
        Due.due("night 5", x.now(5), 1);
        x.nights(1);
        Due.due("night 6 has that of night 0", x.now(5), 2);
    }

    private static void one() {
        Due.promise("promise 5");
        InnTurned x = new InnTurned();
        for (int i = 0; i < 6; i++) Due.due("one", x.one(i, 9 - i), i);
        for (int i = 0; i < 6; i++) {
            Due.due("kind", x.of(i, 0), i);
            Due.due("word", x.of(i, 1), 9 - i);
            Due.due("visits", x.of(i, 2), 0);
            Due.due("out", x.of(i, 3), 0);
        }
        Due.due("one(6, 0)", x.one(6, 0), -2);
        Due.due("one(-1, 0)", x.one(-1, 0), -2);
        Due.due("one(0, 10)", x.one(0, 10), -2);
        Due.due("one(0, -1)", x.one(0, -1), -2);
        Due.due("a seventh", x.one(0, 0), 6);
        Due.due("an eighth", x.one(0, 0), -4);
        Due.due("BAD goes ahead of FULL", x.one(6, 0), -2);
        Due.due("there are", x.count(0), 7);
        x.inn(0, 3);
        Due.due("the first again", x.one(3, 3), 0);
        Due.due("anew, no visits", x.of(0, 2), 0);
    }

    private static void type() {
        Due.promise("promise 6");
        InnTurned x = new InnTurned();
        Due.due("type(-1)", x.type(-1), -2);
        Due.due("type(128)", x.type(128), -2);
        Due.due("type(0)", x.type(0), 1);
        Due.due("type(127)", x.type(127), 2);
        for (int k = 3; k <= 150; k++) Due.due("type", x.type(32), k);
        Due.due("a byte too many", x.type(32), -4);
        Due.due("BAD goes ahead of FULL", x.type(128), -2);
        Due.due("bytes", x.count(8), 150);
        Due.promise("promise 7");
        Due.due("clear()", x.clear(), 150);
        Due.due("clear() again", x.clear(), 0);
        Due.due("bytes", x.count(8), 0);
        Due.due("type(105)", x.type(105), 1);
        Due.due("clear()", x.clear(), 1);
    }

    private static void readOrdinary() {
        Due.promise("promise 8");
        InnTurned x = new InnTurned();
        Due.due("read", Due.read(x, "inn 2 3;wet 0 2;one 0 4;one 1 2;come 0;nights 1;come 1;letter 0 9;go 0;"), 9);
        Due.due("kind", x.now(0), 2);
        Due.due("rooms", x.now(1), 3);
        Due.due("night", x.count(2), 1);
        Due.due("wet now", x.now(5), 2);
        Due.due("wheels of this night", x.now(2), 1);
        Due.due("word of 0", x.of(0, 1), 9);
        Due.due("visits of 0", x.of(0, 2), 1);
        Due.due("0 is out", x.of(0, 3), 0);
        Due.due("1 is in", x.of(1, 3), 1);
        Due.due("nothing to undo", x.count(7), 0);
        Due.due("the text stays", x.count(8), 71);
        Due.due("read once more", x.read(), 9);
        Due.due("travellers", x.count(0), 2);
        Due.due("come and be turned away", Due.read(x, "inn 1 7;one 0 9;come 0;come 0;"), 4);
        Due.due("turned", x.now(3), 2);
        Due.due("wheels", x.now(2), 2);
        Due.due("out", x.of(0, 3), 0);
        Due.due("wet stands anew", x.wet(1, 0), 0);
    }

    private static void readEdges() {
        InnTurned x = new InnTurned();
        Due.due("an inn alone", Due.read(x, "inn 5 7;"), 1);
        Due.due("is one", x.now(0) * 10 + x.now(1), 57);
        Due.due("no blanks where none are needed", Due.read(x, "inn0 7;one0 0;wet0 1 2 3 4 0;come0;"), 4);
        Due.due("night 4", x.wet(4, 0), 4);
        Due.due("blanks everywhere", Due.read(x, "  inn  05  07 ;  nights  9 ; nights 99 ;  "), 3);
        Due.due("two figures are one number", x.count(2), 108);
        Due.due("landlord", x.now(0), 5);
        Due.due("one wet", Due.read(x, "inn 0 0;wet 4;wet 0 3;"), 3);
        Due.due("a later wet takes its places alone", x.wet(0, 0) * 10 + x.wet(1, 0), 3);
        x = new InnTurned();
        Due.due("seven", Due.read(x, "inn 0 7;one 0 0;one 1 1;one 2 2;one 3 3;one 4 4;one 5 5;one 0 9;letter 6 9;"), 9);
        Due.due("travellers", x.count(0), 7);
        Due.due("wet told behind a coming counts from there", Due.read(x, "inn 2 7;one 0 5;come 0;wet 3;come 0;"), 5);
        Due.due("turned first", x.now(3), 1);
        Due.due("in then", x.count(1), 1);
        Due.due("a letter with no word, of one who is in", Due.read(x, "inn 0 7;one 0 4;come 0;letter 0 0;letter 0 0;"), 5);
        Due.due("no word", x.of(0, 1), 0);
        x.seen(0, 1, 1, 1);
        x.note(0, 1, 1, 1, 1);
        x.mark(1, 1, 1);
        x.comes(0);
        Due.due("read", x.read(), 5);
        for (int k = 4; k <= 7; k++) Due.due("none of count(" + k + ")", x.count(k), 0);
        x = new InnTurned();
        StringBuilder full = new StringBuilder("inn 0 3;");
        while (full.length() < 140) full.append("nights99;");
        while (full.length() < 150) full.append(' ');
        Due.due("a full text", Due.read(x, full.toString()), 16);
        Due.due("nights", x.count(2), 15 * 99);
    }

    private static void readFaults() {
        fault("", 0);
        fault("   ", 3);
        fault("inn", 3);
        fault("inn ", 4);
        fault("inn 0 3", 7);
        fault("inn 0 3;one", 11);
        fault("inn 0 3;wet 1 2", 15);
        fault("inn 0 3;nights 5 ", 17);
        fault("in", 0);
        fault(" inns 0 3;", 1);
        fault("inna 0 3;", 0);
        fault("innz 0 3;", 0);
        fault("inn` 0 3;", 3);
        fault("inn{ 0 3;", 3);
        fault("inn 0/3;", 5);
        fault("inn 0:3;", 5);
        fault("inn 0 3:", 7);
        fault("jnn 0 3;", 0);
        fault(";", 0);
        fault("5", 0);
        fault("one 0 0;inn 0 3;", 0);
        fault("inn 0 3;inn 0 3;", 8);
        fault("inn 6 3;", 4);
        fault("inn 0 8;", 6);
        fault("inn 000 3;", 4);
        fault("inn 0 003;", 6);
        fault("inn 0 1234", 6);
        fault("inn 0;", 5);
        fault("inn 0 3 3;", 8);
        fault("inn;", 3);
        fault("inn x 3;", 4);
        fault("inn 0 3;;", 8);
        fault("inn 0 3;Come", 8);
        fault("inn 0 3;\t", 8);
        fault("inn 0 3;comes 0;", 8);
        fault("inn 0 3;com 0;", 8);
        fault("inn 0 3;7;", 8);
        fault("inn 0 3;wet;", 11);
        fault("inn 0 3;wet 5;", 12);
        fault("inn 0 3;wet 0 0 0 0 0 0 0;", 24);
        fault("inn 0 3;wet 0 0 0 0 0 0", 23);
        fault("inn 0 3;one 6 0;", 12);
        fault("inn 0 3;one 0 10;", 14);
        fault("inn 0 3;one 0;", 13);
        fault("inn 0 3;one 0 0;come 1;", 21);
        fault("inn 0 3;come 0;", 13);
        fault("inn 0 3;one 0 0;come 0;come 0;", 28);
        fault("inn 0 3;one 0 0;go 0;", 19);
        fault("inn 0 3;go 0;", 11);
        fault("inn 0 0;one 0 0;come 0;go 0;", 26);
        fault("inn 0 3;one 0 0;come 0;go 0;go 0;", 31);
        fault("inn 0 3;letter 0 0;", 15);
        fault("inn 0 3;one 0 0;letter 0 10;", 25);
        fault("inn 0 3;one 0 0;letter 0;", 24);
        fault("inn 0 3;nights 0;", 15);
        fault("inn 0 3;nights 100;", 15);
        fault("inn 0 3;nights;", 14);
        fault("inn 0 7;one 0 0;one 0 0;one 0 0;one 0 0;one 0 0;one 0 0;one 0 0;one 0 0;", 64);
        fault("inn 0 7;one 0 0;one 0 0;one 0 0;one 0 0;one 0 0;one 0 0;one 0 0;one", 64);
    }

    private static void fault(String text, int place) {
        InnTurned x = new InnTurned();
        Due.due("read of [" + text + "]", Due.read(x, text), -10 - place);
        Due.due("no fault is a status", x.status(0) + x.status(1) + x.status(2), 0);
    }

    private static void readFaultsKeepAll() {
        InnTurned x = new InnTurned();
        fill(x);
        Due.type(x, "inn 5 7;one 3 3;nights 9;come 1;");
        long was = x.digest();
        Due.due("read", x.read(), -10 - 30);
        Due.due("all stays", x.digest(), was);
        Due.due("what may be undone, too", x.undo(), 0);
    }
}
