import java.math.BigInteger;

/**
 * The words ahead of the promises, where they name an edge: least and greatest numbers, what goes round,
 * what is full, what stays. Each check bears the sentence that it is of.
 */
public final class TermsTest {
    private static final String SLEEPER = "inn 4 7;wet 4 4 4 4 4 4;";

    public static void main(String[] args) {
        rooms();
        atFirst();
        innIsAsNew();
        wetByNight();
        beard();
        prophet();
        poor();
        king();
        greatestNumbers();
        letsPass();
        likelyMeetsLetsPass();
        visitsAndWheels();
        turned();
        goingAndNight();
        lastNight();
        undoBringsBack();
        undoLeaves();
        eightAtMost();
        noneMayBeBehind();
        images();
        imagesLeave();
        imagesKeepWhatMayBeUndone();
        fraction();
        digestOfAll();
        digestOfNoMore();
        Due.end();
    }

    private static void rooms() {
        Due.promise("\"ROOMS 0 .. 7 (3 at first)\"");
        for (int rooms = 0; rooms <= 7; rooms++) {
            InnTurned x = Due.told("inn 4 " + rooms + ";wet 4;");
            for (int i = 0; i < 7; i++) x.one(i % 6, i);
            Due.due("may()", x.may(), rooms == 0 ? 0 : 127);
            for (int i = 0; i < 7; i++) Due.due("comes(" + i + ")", x.comes(i), i < rooms ? 1 : 0);
            Due.due("in", x.count(1), rooms);
            Due.due("turned", x.now(3), 7 - rooms);
            Due.due("wheels", x.now(2), 7);
            Due.due("may()", x.may(), 0);
        }
        InnTurned x = new InnTurned();
        for (int i = 0; i < 4; i++) x.one(0, 0);
        for (int i = 0; i < 4; i++) Due.due("three at first", x.comes(i), i < 3 ? 1 : 0);
    }

    private static void atFirst() {
        Due.promise("\"each is OUT at first\", \"VISITS (0 at first)\", \"as they come\"");
        InnTurned x = Inns.full();
        x.inn(0, 3);
        for (int i = 0; i < 7; i++) {
            Due.due("number", x.one(5 - i % 6, 9 - i), i);
            int[] due = {5 - i % 6, 9 - i, 0, 0};
            for (int k = 0; k < 4; k++) Due.due("of(" + i + ", " + k + ")", x.of(i, k), due[k]);
            for (int k = 1; k < 4; k += 2) Due.due("count(" + k + ")", x.count(k), 0);
        }
    }

    private static void innIsAsNew() {
        Due.promise("promise 2: all else as at first (but for IMAGES, THE TEXT, THE FRACTION, STATUS)");
        InnTurned x = Inns.full(), y = new InnTurned();
        Inns.type(y, "", 150);
        Due.due("inn(0, 3)", x.inn(0, 3), 7);
        for (InnTurned z : new InnTurned[] {x, y}) {
            z.one(0, 0);
            z.rain(0, 0);
        }
        Due.due("the same inn as a new one", x.digest(), y.digest());
        Due.due("nothing to undo", x.undo(), -3);
        x = Inns.full();
        y = Inns.full();
        for (InnTurned z : new InnTurned[] {x, y}) {
            z.comes(9);
            z.comes(0);
            z.comes(0);
            for (int k = 0; k < 3; k++) z.type(1);
        }
        x.inn(1, 1);
        for (int k = 0; k < 3; k++) Due.due("status(" + k + ")", x.status(k), k + 1);
        for (int k = 0; k < 2; k++) Due.due("part(" + k + ")", x.part(k), y.part(k));
        for (int i = 0; i < 2; i++) {
            Due.due("an image stays", x.from(i), 1);
            y.from(i);
            Due.due("as it was", x.digest(), y.digest());
        }
        Due.due("the text stays", x.read(), 6);
    }

    private static void wetByNight() {
        Due.promise("\"NIGHT n has that of n by 6 left over\"");
        int[] wets = {1, 2, 3, 4, 0, 2};
        InnTurned x = new InnTurned();
        for (int n = 0; n < 6; n++) Due.due("dry at first", x.wet(n, wets[n]), 0);
        for (int n = 0; n < 14; n++) {
            Due.due("wet on night " + n, x.now(5), wets[n % 6]);
            x.nights(1);
        }
        x.nights(86);
        Due.due("on night 100", x.now(5), wets[4]);
        x = Inns.late("inn 0 3;wet 1 2 3 4 0 2;");
        Due.due("on night 9999", x.now(5), 4);
    }

    private static void beard() {
        Due.promise("\"BEARD: PLAIN, 3 at most, if w is 0, else as PLAIN\"");
        int[][] due = {{0, 0, 0}, {0, 2, 2}, {0, 3, 3}, {0, 4, 3}, {0, 5, 3}, {1, 0, 2}, {1, 1, 3}, {1, 2, 4}, {1, 9, 11}, {2, 0, 4}};
        for (int[] d : due) Due.due("w " + d[0] + ", v " + d[1], Inns.visited(4, d[0], d[1]).of(0, 4), d[2]);
        Due.promise("\"(SLEEPER) 99, if x is 4\", \"BEARD 3 at most\": he lets 3 pass");
        InnTurned x = Inns.visited(4, 0, 5);
        x.nights(1);
        x.landlord(1);
        Due.due("first thing, of 5", x.when(0), 0);
        x.landlord(3);
        Due.due("of 1", x.when(0), -1);
    }

    private static void prophet() {
        Due.promise("\"PROPHET: POOR, 9 more, if v is 2 or more\"");
        int[][] due = {{0, 0, 0}, {0, 1, 0}, {0, 2, 10}, {0, 3, 10}, {0, 4, 11}, {1, 1, 1}, {1, 2, 11}, {9, 1, 9}, {9, 2, 19}};
        for (int[] d : due) Due.due("w " + d[0] + ", v " + d[1], Inns.visited(5, d[0], d[1]).of(0, 4), d[2]);
    }

    private static void poor() {
        Due.promise("\"POOR: half (cut) of PLAIN\"");
        int[][] due = {{0, 0, 0}, {0, 1, 0}, {0, 2, 1}, {0, 3, 1}, {3, 0, 3}, {3, 1, 3}, {3, 2, 4}, {9, 3, 10}};
        for (int[] d : due) Due.due("w " + d[0] + ", v " + d[1], Inns.visited(2, d[0], d[1]).of(0, 4), d[2]);
    }

    private static void king() {
        Due.promise("\"KING: REGULAR, 6 more, if n by 7 leaves 4 over\"");
        InnTurned x = Due.told("inn 0 3;one 3 1;one 1 1;");
        for (int n = 0; n < 30; n++) {
            Due.due("king on night " + n, x.of(0, 4), n == 4 || n == 11 || n == 18 || n == 25 ? 12 : 6);
            Due.due("regular on night " + n, x.of(1, 4), 6);
            x.nights(1);
        }
        x = new InnTurned();
        x.one(3, 0);
        for (int k = 0; k < 100; k++) x.nights(99);
        for (int n = 9900; n <= 9999; n++) {
            Due.due("king on night " + n, x.of(0, 4), n % 7 == 4 ? 10 : 4);
            x.nights(1);
        }
    }

    private static void greatestNumbers() {
        Due.promise("\"WORD (0 .. 9)\", \"VISITS (0 .. 99)\": how LIKELY at the most");
        int[] due = {117, 118, 58, 118, 117, 67};
        int[] dueNoWord = {99, 100, 49, 100, 3, 58};
        for (int kind = 0; kind < 6; kind++) {
            InnTurned x = Inns.visited(kind, 9, 99);
            Due.due("kind " + kind, x.of(0, 4), due[kind]);
            x.letter(0, 0);
            Due.due("kind " + kind + ", no word", x.of(0, 4), dueNoWord[kind]);
        }
        InnTurned x = Inns.visited(3, 9, 99);
        x.nights(4);
        Due.due("a king on night 4", x.of(0, 4), 124);
        Due.promise("\"99, if x is 4\", be one as LIKELY as may be");
        Due.due("124 of 99", x.comes(0), 0);
        x = Inns.visited(0, 0, 99);
        Due.due("99 of 99", x.comes(0), 1);
        x.goes(0);
        x.letter(0, 1);
        Due.due("101 of 99", x.comes(0), 0);
    }

    private static void letsPass() {
        Due.promise("\"how much one LETS PASS by WET x, with a WHEELS (may be below 0)\"");
        for (int a : new int[] {0, 1, 2, 4, 5, 8, 9, 10, 98, 99, 100, 101}) {
            InnTurned x = Due.told("inn 0 0;one 0 0;");
            for (int k = 0; k < a; k++) x.comes(0);
            Due.due("wheels", x.now(2), Math.min(a, 99));
            for (int wet = 0; wet <= 4; wet++) letsPassBy(x, wet, Math.min(a, 99));
        }
    }

    private static void letsPassBy(InnTurned x, int wet, int a) {
        int[] due = {8 - a, 5 - a, 8 - a + wet, 5 - a - wet, wet == 4 ? 99 : 8 - a + wet, a == 0 ? 10 : 5 - a};
        x.wet(0, wet);
        for (int kind = 0; kind < 6; kind++) {
            x.landlord(kind);
            Due.due("kind " + kind + ", wet " + wet + ", wheels " + a, x.now(4), due[kind]);
        }
    }

    private static void likelyMeetsLetsPass() {
        Due.promise("\"if one is less LIKELY than he LETS PASS, or as much\"");
        for (int wheels = 0; wheels <= 9; wheels++) {
            for (int word = 0; word <= 5; word++) {
                InnTurned x = Due.told("inn 0 7;one 0 9;one 0 " + word + ";");
                for (int k = 0; k < wheels; k++) x.comes(0);
                boolean in = 2 * word <= 8 - wheels;
                Due.due("may()", x.may(), in ? 2 : 0);
                Due.due("2 times " + word + " of 8 less " + wheels, x.comes(1), in ? 1 : 0);
                Due.due("in", x.of(1, 3), in ? 1 : 0);
                Due.due("visits", x.of(1, 2), in ? 1 : 0);
                Due.due("turned", x.now(3), in ? wheels : wheels + 1);
                Due.due("wheels are one more in any case", x.now(2), wheels + 1);
            }
        }
    }

    private static void visitsAndWheels() {
        Due.promise("\"VISITS 1 more (99 at most)\", \"WHEELS are one more in any case (99 at most)\"");
        InnTurned x = Due.told(SLEEPER + "one 0 0;");
        for (int k = 1; k <= 102; k++) {
            Due.due("comes", x.comes(0), 1);
            if (k >= 98) Due.due("visits, wheels", x.of(0, 2) * 1000 + x.now(2), Math.min(k, 99) * 1001);
            x.goes(0);
        }
        Due.due("visits of all", x.count(3), 99);
        Due.due("undo", x.undo(), 0);
        Due.due("undo of a coming at 99", x.undo(), 0);
        Due.due("visits, wheels", x.of(0, 2) * 1000 + x.now(2), 99099);
        Due.promise("\"A NIGHT: WHEELS are 0\"");
        x.nights(1);
        Due.due("wheels", x.now(2), 0);
        Due.due("visits stay", x.of(0, 2), 99);
    }

    private static void turned() {
        Due.promise("\"TURNED: how many in all\"");
        InnTurned x = Due.told("inn 0 0;one 0 0;one 0 9;");
        for (int k = 1; k <= 300; k++) {
            x.comes(k % 2);
            if (k % 50 == 0) x.nights(1);
        }
        Due.due("turned, night by night", x.now(3), 300);
        Due.due("night", x.count(2), 6);
        Due.due("visits", x.count(3), 0);
        x.landlord(4);
        x.wet(0, 4);
        x.comes(0);
        Due.due("no room for the sleeper's either", x.now(3), 301);
    }

    private static void goingAndNight() {
        Due.promise("\"GOING (one who is IN): OUT\", \"A NIGHT: .. (who is IN stays)\"");
        InnTurned x = Due.told("inn 0 3;one 0 1;one 0 2;one 0 9;come 0;come 1;come 2;");
        Due.due("wheels, turned", x.now(2) * 10 + x.now(3), 31);
        Due.due("goes(0)", x.goes(0), 1);
        Due.due("wheels, turned", x.now(2) * 10 + x.now(3), 31);
        Due.due("word, visits", x.of(0, 1) * 10 + x.of(0, 2), 11);
        x.nights(99);
        Due.due("in stays", x.of(1, 3) * 10 + x.count(1), 11);
        Due.due("turned stays, no wheels", x.now(2) * 10 + x.now(3), 1);
        Due.due("words stay", x.of(0, 1) * 100 + x.of(1, 1) * 10 + x.of(2, 1), 129);
        Due.due("visits stay", x.of(0, 2) * 100 + x.of(1, 2) * 10 + x.of(2, 2), 110);
        Due.due("the last goes", x.goes(1), 0);
    }

    private static void lastNight() {
        Due.promise("\"NIGHTS have numbers, 0 at first (9999 at most)\", \"9999 stays, WHEELS are 0\"");
        for (int n : new int[] {1, 2, 99}) {
            InnTurned x = Due.told("inn 0 3;one 0 9;");
            for (int k = 0; k < 100; k++) x.nights(99);
            Due.due("nights(98)", x.nights(98), 9998);
            x.comes(0);
            Due.due("nights(" + n + ") from 9998", x.nights(n), 9999);
            Due.due("wheels", x.now(2), 0);
            x.comes(0);
            Due.due("nights(" + n + ") from 9999", x.nights(n), 9999);
            Due.due("wheels", x.now(2), 0);
            Due.due("turned stays", x.now(3), 2);
            Due.due("night", x.count(2), 9999);
            Due.due("undo", x.undo(), 9999);
            Due.due("wheels", x.now(2), 1);
            Due.due("undo of the coming", x.undo(), 9999);
            Due.due("undo of the nights", x.undo(), 9998);
            Due.due("wheels", x.now(2), 1);
            Due.due("no refusal", x.status(0) + x.status(1) + x.status(2), 0);
        }
    }

    private static void undoBringsBack() {
        Due.promise("\"UNDO: WORDS, VISITS, who is IN, WHEELS, TURNED, the NIGHT as ahead of the last\"");
        InnTurned x = Due.told(SLEEPER + "one 0 1;one 3 9;");
        for (int what = 0; what < 4; what++) {
            x.comes(0);
            x.nights(1);
            x.landlord(what == 1 ? 0 : 4);
            x.image(0);
            long was = x.digest();
            if (what == 0) x.comes(1);
            if (what == 1) x.comes(1);
            if (what == 2) x.goes(0);
            if (what == 3) x.nights(99);
            if (what == 1) Due.due("one is turned away", x.now(3), 1);
            Due.due("one may be undone", x.count(7), 1);
            Due.due("undo", x.undo(), what + 1);
            Due.due("as ahead of it", x.digest(), was);
            Due.due("the last one", x.undo(), -3);
            x.from(0);
        }
    }

    private static void undoLeaves() {
        Due.promise("\"UNDO: WORDS, VISITS, who is IN, WHEELS, TURNED, the NIGHT\", and no more");
        InnTurned x = Due.told("inn 2 3;one 0 5;one 0 0;");
        x.image(1);
        x.comes(1);
        x.seen(0, 1, 2, 1);
        x.note(0, 1, 2, 3, 4);
        x.note(1, 1, 2, 3, 4);
        for (int k = 0; k < 3; k++) x.mark(1, 2, 3);
        x.rain(0, 6);
        x.image(0);
        x.comes(9);
        x.comes(1);
        x.comes(1);
        for (int k = 0; k < 6; k++) x.one(0, -1);
        int bytes = x.count(8);
        Due.due("undo", x.undo(), 0);
        Due.due("seen, notes, marks", x.count(4) * 100 + x.count(5) * 10 + x.count(6), 123);
        Due.due("often", x.often(0, 0), 7);
        Due.due("part", x.part(0) * 100 + x.part(1), 305);
        Due.due("bytes", x.count(8), bytes);
        Due.due("bads", x.status(0), 7);
        Due.due("nos", x.status(1), 2);
        Due.due("image 0", x.from(0), 1);
        Due.due("in", x.count(1), 1);
        Due.due("image 1", x.from(1), 1);
        Due.due("out", x.count(1), 0);
        x.letter(0, 1);
        x.forget(0);
        Due.due("what is forgotten stays so", x.undo() * 10 + x.count(4), 0);
        x.letter(0, 1);
        x.forget(1);
        x.forget(2);
        x.undo();
        Due.due("notes, marks", x.count(5) + x.count(6), 0);
    }

    private static void eightAtMost() {
        Due.promise("\"(8 at most)\"");
        for (int many = 0; many <= 10; many++) {
            InnTurned x = Due.told(SLEEPER + "one 0 0;");
            long[] digests = new long[many + 1];
            for (int k = 0; k < many; k++) {
                digests[k] = x.digest();
                if (k % 4 == 0) x.comes(0);
                if (k % 4 == 1) x.goes(0);
                if (k % 4 == 2) x.letter(0, k);
                if (k % 4 == 3) x.nights(k);
                Due.due("may be undone", x.count(7), Math.min(k + 1, 8));
            }
            int may = Math.min(many, 8);
            for (int k = 1; k <= may; k++) {
                Due.holds("undo " + k + " of " + many, x.undo() >= 0);
                Due.due("may be undone then", x.count(7), may - k);
                if (many <= 8) Due.due("as it was", x.digest(), digests[many - k]);
            }
            Due.due("no more of " + many, x.undo(), -3);
            Due.due("calls to be undone again", x.nights(1) >= 1 ? x.count(7) : -1, 1);
        }
        Due.promise("\"(1 .. 99; together one that may be undone)\"");
        InnTurned x = new InnTurned();
        Due.due("nights(99)", x.nights(99), 99);
        Due.due("one", x.count(7), 1);
        Due.due("undo", x.undo(), 0);
    }

    private static void noneMayBeBehind() {
        Due.promise("\"behind a KIND of THE LANDLORD or a WET told (be it so already), a TRAVELLER more none may be\"");
        for (int way = 0; way < 6; way++) {
            InnTurned x = Due.told("inn 3 3;wet 0 2;one 0 0;");
            for (int k = 0; k < 9; k++) x.nights(1);
            if (way == 0) Due.due("landlord", x.landlord(3), 3);
            if (way == 1) Due.due("landlord", x.landlord(0), 3);
            if (way == 2) Due.due("wet", x.wet(1, 2), 2);
            if (way == 3) Due.due("wet", x.wet(5, 1), 0);
            if (way == 4) Due.due("one", x.one(0, 0), 1);
            if (way == 5) Due.due("inn", x.inn(3, 3), 1);
            Due.due("may be undone, way " + way, x.count(7), 0);
            Due.due("undo, way " + way, x.undo(), -3);
            x.nights(2);
            Due.due("from there again", x.count(7), 1);
            Due.due("undo", x.undo(), way == 5 ? 0 : 9);
        }
        InnTurned x = Inns.full();
        x.type(1);
        x.clear();
        x.type(1);
        x.read();
        x.forget(0);
        x.forget(1);
        x.forget(2);
        x.seen(0, 0, 0, 0);
        x.note(0, 0, 0, 0, 0);
        x.mark(0, 0, 0);
        x.rain(3, 5);
        x.decades(5, 5);
        x.image(0);
        x.order(0);
        Due.due("behind all others they may be", x.count(7), 8);
    }

    private static void images() {
        Due.promise("\"IMAGES 0, 1 keep all\"");
        for (int i = 0; i < 2; i++) {
            InnTurned x = Inns.full();
            x.image(i);
            x.clear();
            x.rain(6, 0);
            long was = x.digest();
            x.from(1 - i);
            Due.holds("the other image is another", x.digest() != was);
            x.inn(0, 0);
            x.from(i);
            Due.due("all is as it was", x.digest(), was);
            Due.due("may be undone", x.count(7), 8);
            long[] due = new long[8];
            InnTurned y = Inns.full();
            y.clear();
            y.rain(6, 0);
            for (int k = 0; k < 8; k++) {
                y.undo();
                due[k] = y.digest();
            }
            for (int k = 0; k < 8; k++) {
                x.undo();
                Due.due("undo " + k + " is as it was", x.digest(), due[k]);
            }
            Due.due("once more", x.from(i), 1);
            Due.due("the image is as it was", x.digest(), was);
        }
        Due.promise("promise 35: NO: none was kept");
        InnTurned x = new InnTurned();
        Due.due("from(0)", x.from(0), -3);
        x.image(1);
        Due.due("from(0), image 1 being kept", x.from(0), -3);
        Due.due("from(1)", x.from(1), 1);
        x = new InnTurned();
        x.image(0);
        Due.due("from(1), image 0 being kept", x.from(1), -3);
        x.one(0, 0);
        Due.due("from(0), kept when nobody was there", x.from(0), 1);
        Due.due("nobody", x.count(0), 0);
    }

    private static void imagesLeave() {
        Due.promise("\"IMAGES 0, 1 keep all but them, THE TEXT, THE FRACTION and STATUS\"");
        for (int i = 0; i < 2; i++) {
            InnTurned x = Due.told("inn 2 3;one 0 5;");
            x.image(1 - i);
            x.one(0, 9);
            x.rain(0, 6);
            x.image(i);
            x.rain(0, 5);
            x.comes(5);
            x.undo();
            x.undo();
            for (int k = 0; k < 3; k++) x.type(59);
            for (int k = 2; k < 10; k++) x.one(0, 0);
            x.image(1 - i);
            x.comes(0);
            x.from(i);
            Due.due("travellers", x.count(0), 2);
            Due.due("the text stays", x.count(8), 19);
            Due.due("the fraction stays", x.part(0) * 100 + x.part(1), 102);
            Due.due("status stays", x.status(0) * 100 + x.status(1) * 10 + x.status(2), 123);
            Due.due("the other image stays", x.from(1 - i), 1);
            Due.due("travellers", x.count(0), 7);
            Due.due("the text can be no inn", x.read(), -10 - 16);
        }
    }

    private static void imagesKeepWhatMayBeUndone() {
        Due.promise("\"what may be undone they keep; it goes on from one\"");
        InnTurned x = Due.told("inn 0 3;one 0 0;");
        x.nights(3);
        x.nights(4);
        x.image(0);
        x.undo();
        x.undo();
        Due.due("nothing to undo", x.undo(), -3);
        x.from(0);
        Due.due("undo", x.undo(), 3);
        x.nights(9);
        Due.due("undo", x.undo(), 3);
        Due.due("undo", x.undo(), 0);
        x.image(1);
        x.nights(5);
        x.from(1);
        Due.due("with nothing to undo", x.undo(), -3);
        x.from(0);
        x.landlord(1);
        Due.due("with nothing to undo", x.undo(), -3);
        x.from(0);
        Due.due("of image 0 still", x.count(7), 2);
    }

    private static void fraction() {
        Due.promise("\"THE FRACTION is 0 by 1 at first; lowest terms, below above 0\"");
        InnTurned x = Due.told("inn 2 3;one 0 5;one 0 4;one 0 9;");
        Due.due("at first", x.part(0) * 100 + x.part(1), 1);
        long[] above = {0, 1, 1, 3, 2, 1, 3, 7, 4, 9, 1}, below = {1, 10, 5, 10, 5, 2, 5, 10, 5, 10, 1};
        for (int c = 0; c <= 10; c++) {
            Due.due("rain(0, " + c + ")", x.rain(0, c), 1);
            Due.due("above of " + c, x.part(0), above[c]);
            Due.due("below of " + c, x.part(1), below[c]);
            x.rain(1, c);
            Due.due("one by one, dry or wet, of " + c, x.part(0) * 100 + x.part(1), 101);
            x.rain(2, c);
            Due.due("none, dry or wet, of " + c, x.part(0) * 100 + x.part(1), 1);
        }
        x.landlord(3);
        x.letter(2, 2);
        for (int c = 0; c <= 10; c++) {
            x.rain(2, c);
            Due.due("to be let in if dry, of " + c, x.part(0) * 100 + x.part(1), above[10 - c] * 100 + below[10 - c]);
        }
    }

    private static void digestOfAll() {
        Due.promise("promise 38: h = 1709; then h = 31 h + v (and goes round)");
        int[] all = {7, 3, 100, 4, 5, 6, 6, 8, 150, 2, 5, 2, 3, 4, 3, 2, 4, 3, 2,
            0, 0, 1, 1, 1, 1, 1, 1, 2, 2, 1, 1, 3, 7, 0, 0, 4, 1, 1, 0, 5, 2, 0, 0, 0, 5, 0, 0};
        BigInteger h = BigInteger.valueOf(1709);
        for (int v : all) h = next(h, v);
        for (int k = 0; k < 5; k++) for (int v : new int[] {k, 9 - k, 99 - k, k % 2}) h = next(h, v);
        for (int k = 0; k < 6; k++) for (int v : new int[] {k, k, 9 - k, 90 + k, 60 - k}) h = next(h, v);
        for (int k = 0; k < 6; k++) for (int v : new int[] {k % 5, 9 - k, k % 2 == 0 ? -20 + k : 99 - k}) h = next(h, v);
        h = next(next(h, 3), 10);
        Due.due("of a full inn", Inns.full().digest(), h.longValue());
    }

    private static BigInteger next(BigInteger h, int v) {
        return h.multiply(BigInteger.valueOf(31)).add(BigInteger.valueOf(v));
    }

    private static void digestOfNoMore() {
        Due.promise("promise 38: of what is told, of no more");
        InnTurned x = Inns.pair();
        long was = x.digest();
        Due.due("bad", x.comes(2), -2);
        Due.due("no", x.comes(0), -3);
        Due.due("not of BAD or NO", x.digest(), was);
        x.image(0);
        x.image(1);
        Due.due("nor of images", x.digest(), was);
        x = Inns.full();
        was = x.digest();
        Due.due("full", x.type(1), -4);
        Due.due("nor of FULL", x.digest(), was);
        x.clear();
        Inns.type(x, "jnn", 150);
        Due.due("of the text how many bytes, not which", x.digest(), was);
        for (int k = 0; k < 3; k++) Due.due("it changes nothing", x.digest(), was);
        Due.due("what may be undone, too", x.count(7), 8);
    }
}
