/** Promises 20 to 32: what was seen and noted, what fits it, what to try next; host and guest; rain; decades. */
public final class OftenTest {
    public static void main(String[] args) {
        seen();
        often();
        oftenByTheLandlordAsHeIs();
        tell();
        note();
        mark();
        forget();
        is();
        look();
        kinds();
        ask();
        door();
        rain();
        decades();
        Due.end();
    }

    private static void seen() {
        Due.promise("promise 20");
        InnTurned x = Due.told("inn 0 3;one 0 0;");
        Due.due("seen(1, 0, 0, 0)", x.seen(1, 0, 0, 0), -2);
        Due.due("seen(-1, 0, 0, 0)", x.seen(-1, 0, 0, 0), -2);
        Due.due("seen(0, 10, 0, 0)", x.seen(0, 10, 0, 0), -2);
        Due.due("seen(0, -1, 0, 0)", x.seen(0, -1, 0, 0), -2);
        Due.due("seen(0, 0, 100, 0)", x.seen(0, 0, 100, 0), -2);
        Due.due("seen(0, 0, -1, 0)", x.seen(0, 0, -1, 0), -2);
        Due.due("seen(0, 0, 0, 2)", x.seen(0, 0, 0, 2), -2);
        Due.due("seen(0, 0, 0, -1)", x.seen(0, 0, 0, -1), -2);
        for (int k = 1; k <= 5; k++) Due.due("seen", x.seen(0, 9, 99, k & 1), k);
        Due.due("a sixth", x.seen(0, 0, 0, 0), -4);
        Due.due("BAD goes ahead of FULL", x.seen(1, 0, 0, 0), -2);
        Due.due("there are", x.count(4), 5);
        Due.due("bads", x.status(0), 9);
        Due.due("fulls", x.status(2), 1);
    }

    private static void often() {
        Due.promise("promise 21");
        InnTurned x = Due.told("inn 0 0;one 0 0;one 5 0;");
        oftenIs(x, 0, 31, 0, 30);
        x.seen(0, 2, 0, 1);
        oftenIs(x, 0, 5, 0, 4);
        x.seen(0, 3, 0, 0);
        oftenIs(x, 0, 2, 3, 4);
        oftenIs(x, 1, 31, 0, 30);
        x.seen(0, 9, 0, 1);
        oftenIs(x, 0, 0, -1, -1);
        x.seen(1, 2, 0, 0);
        oftenIs(x, 1, 29, 2, 30);
        Due.due("often(2, 0)", x.often(2, 0), -2);
        Due.due("often(-1, 0)", x.often(-1, 0), -2);
        Due.due("often(0, 3)", x.often(0, 3), -2);
        Due.due("often(0, -1)", x.often(0, -1), -2);
        Due.due("none is no refusal", x.status(0) + x.status(1) + x.status(2), 4);
        gap();
    }

    /** Of a beard with no word he lets pass 3, be it ever so often; with a word not. */
    private static void gap() {
        InnTurned x = Due.told("inn 3 3;wet 1;one 4 0;one 5 0;");
        x.seen(0, 0, 0, 1);
        oftenIs(x, 0, 31, 0, 30);
        x.seen(0, 1, 0, 0);
        oftenIs(x, 0, 28, 3, 30);
        x.seen(1, 9, 0, 0);
        oftenIs(x, 1, 31, 0, 30);
    }

    private static void oftenByTheLandlordAsHeIs() {
        InnTurned x = Due.told("inn 0 3;one 3 0;one 0 9;come 1;come 1;");
        Due.due("wheels", x.now(2), 2);
        x.seen(0, 0, 0, 1);
        oftenIs(x, 0, 5, 0, 4);
        x.landlord(1);
        oftenIs(x, 0, 2, 0, 1);
        x.landlord(2);
        x.wet(0, 2);
        oftenIs(x, 0, 7, 0, 6);
        x.landlord(4);
        x.wet(0, 4);
        oftenIs(x, 0, 31, 0, 30);
        x.forget(0);
        x.wet(5, 3);
        x.seen(0, 0, 11, 1);
        oftenIs(x, 0, 2, 0, 1);
    }

    private static void oftenIs(InnTurned x, int i, int many, int least, int greatest) {
        Due.due("often(" + i + ", 0)", x.often(i, 0), many);
        Due.due("often(" + i + ", 1)", x.often(i, 1), least);
        Due.due("often(" + i + ", 2)", x.often(i, 2), greatest);
    }

    private static void tell() {
        Due.promise("promise 22");
        InnTurned x = Due.told("inn 0 3;one 0 0;");
        Due.due("at no word, most are told apart: 9 of 31 let in", x.tell(0), 0);
        x.seen(0, 4, 0, 1);
        Due.due("one number is left", x.often(0, 0), 1);
        oftenIs(x, 0, 1, 0, 0);
        Due.due("the least of like ones", x.tell(0), 0);
        x.forget(0);
        x.seen(0, 2, 0, 1);
        Due.due("0 to 4: with word 3, 3 of 5 are let in", x.tell(0), 3);
        x.seen(0, 3, 0, 0);
        Due.due("3 and 4", x.often(0, 1) * 10 + x.often(0, 2), 34);
        Due.due("no word of 0 .. 9 parts 3 from 4", x.tell(0), 0);
        x.wet(3, 3);
        x.landlord(2);
        x.forget(0);
        Due.due("on night 3 he lets 11 pass", x.tell(0), 30);
        x.landlord(4);
        x.wet(3, 4);
        Due.due("on night 3 he sleeps", x.tell(0), 0);
        x.seen(0, 9, 3, 0);
        Due.due("no number", x.tell(0), -1);
        Due.due("not there", x.tell(1), -2);
        Due.due("below", x.tell(-1), -2);
        x = Due.told("inn 0 3;one 3 0;wet 0 0 0 0 4 0;");
        x.landlord(2);
        Due.due("a king on night 10, not on night 4", x.tell(0), 100);
        x = Due.told("inn 0 3;one 4 0;");
        Due.due("a beard needs a word to be told", x.tell(0), 1);
        x = Due.told("inn 2 3;one 2 0;wet 4;");
        x.seen(0, 0, 0, 0);
        Due.due("26 to 30 are left", x.often(0, 1) * 100 + x.often(0, 2), 2630);
        Due.due("none of them is let in by any word", x.tell(0), 0);
        x.landlord(4);
        x.wet(0, 0);
        x.wet(1, 4);
        x.forget(0);
        x.seen(0, 0, 0, 0);
        Due.due("18 to 30 are left", x.often(0, 0), 13);
        x.wet(2, 3);
        Due.due("on night 2 he lets 11 pass: 18 to 23, 6 of 13", x.tell(0), 20);
        x = Due.told("inn 2 3;wet 0 1;one 1 0;");
        x.seen(0, 2, 1, 1);
        Due.due("0 and 1 are left", x.often(0, 1) * 10 + x.often(0, 2), 1);
        Due.due("word 2 parts them", x.tell(0), 2);
        x = Due.told("inn 2 3;wet 4 4 4 4 4 4;one 2 0;");
        x.seen(0, 8, 0, 1);
        Due.due("0 to 9 are left", x.often(0, 1) * 10 + x.often(0, 2), 9);
        Due.due("word 9 alone parts them", x.tell(0), 9);
    }

    private static void note() {
        Due.promise("promise 23");
        InnTurned x = Due.told("inn 0 3;one 0 0;");
        int[][] bad = {{1, 0, 0, 0, 0}, {-1, 0, 0, 0, 0}, {0, 10, 0, 0, 0}, {0, -1, 0, 0, 0}, {0, 0, 10, 0, 0},
            {0, 0, -1, 0, 0}, {0, 0, 0, 100, 0}, {0, 0, 0, -1, 0}, {0, 0, 0, 0, 61}, {0, 0, 0, 0, -1}};
        for (int[] b : bad) Due.due("note", x.note(b[0], b[1], b[2], b[3], b[4]), -2);
        for (int k = 1; k <= 6; k++) Due.due("note", x.note(0, 9, 9, 99, 60), k);
        Due.due("a seventh", x.note(0, 0, 0, 0, 0), -4);
        Due.due("BAD goes ahead of FULL", x.note(1, 0, 0, 0, 0), -2);
        Due.due("there are", x.count(5), 6);
        Due.due("bads", x.status(0), 11);
        Due.due("fulls", x.status(2), 1);
    }

    private static void mark() {
        Due.promise("promise 24");
        InnTurned x = new InnTurned();
        int[][] bad = {{5, 0, 0}, {-1, 0, 0}, {0, 10, 0}, {0, -1, 0}, {0, 0, 100}, {0, 0, -21}};
        for (int[] b : bad) Due.due("mark", x.mark(b[0], b[1], b[2]), -2);
        for (int k = 1; k <= 6; k++) Due.due("mark", x.mark(4, 9, k % 2 == 0 ? -20 : 99), k);
        Due.due("a seventh", x.mark(0, 0, 0), -4);
        Due.due("BAD goes ahead of FULL", x.mark(5, 0, 0), -2);
        Due.due("there are", x.count(6), 6);
        Due.due("bads", x.status(0), 7);
        Due.due("fulls", x.status(2), 1);
    }

    private static void forget() {
        Due.promise("promise 25");
        InnTurned x = Due.told("inn 0 3;one 0 0;");
        x.seen(0, 0, 0, 0);
        for (int k = 0; k < 2; k++) x.note(0, 0, 0, 0, 0);
        for (int k = 0; k < 3; k++) x.mark(0, 0, 0);
        Due.due("forget(3)", x.forget(3), -2);
        Due.due("forget(-1)", x.forget(-1), -2);
        Due.due("forget(1)", x.forget(1), 2);
        Due.due("left", x.count(4) * 100 + x.count(5) * 10 + x.count(6), 103);
        Due.due("forget(0)", x.forget(0), 1);
        Due.due("left", x.count(4) * 100 + x.count(5) * 10 + x.count(6), 3);
        Due.due("forget(2)", x.forget(2), 3);
        Due.due("forget(2) again", x.forget(2), 0);
        for (int k = 1; k <= 6; k++) Due.due("room again", x.mark(0, 0, 8), k);
    }

    private static void is() {
        Due.promise("promise 26");
        InnTurned x = Due.told("inn 0 3;one 3 0;one 0 0;");
        Due.due("no notes", x.is(0), 63);
        x.note(0, 3, 0, 0, 6);
        Due.due("plain, beard", x.is(0), 1 + 16);
        Due.due("of the other none", x.is(1), 63);
        x.note(0, 0, 5, 0, 3);
        Due.due("beard", x.is(0), 16);
        x.note(1, 1, 1, 4, 13);
        Due.due("a king on night 4", x.is(1), 8);
        x.forget(1);
        x.note(1, 1, 1, 3, 7);
        Due.due("regular or king on night 3", x.is(1), 2 + 8);
        x.note(1, 1, 1, 11, 7);
        Due.due("regular on night 11", x.is(1), 2);
        x.forget(1);
        x.note(1, 3, 1, 0, 3);
        Due.due("poor, prophet", x.is(1), 4 + 32);
        x.note(1, 3, 2, 0, 13);
        Due.due("prophet", x.is(1), 32);
        x.note(1, 3, 2, 0, 12);
        Due.due("none", x.is(1), 0);
        Due.due("is(2)", x.is(2), -2);
        Due.due("is(-1)", x.is(-1), -2);
    }

    private static void look() {
        Due.promise("promise 27");
        InnTurned x = Due.told("inn 0 3;one 0 5;one 4 0;");
        Due.due("two at the least are alike: plain, beard", x.look(0), 0);
        Due.due("no word: all six apart", x.look(1), 404);
        x.note(0, 1, 0, 0, 6);
        Due.due("regular, king", x.is(0), 2 + 8);
        Due.due("on night 4", x.look(0), 4);
        x.forget(1);
        x.note(0, 2, 0, 0, 2);
        Due.due("poor, prophet", x.is(0), 4 + 32);
        Due.due("twice in", x.look(0), 200);
        x.note(0, 2, 2, 0, 3);
        Due.due("one kind: the least", x.look(0), 0);
        x.note(0, 2, 2, 0, 4);
        Due.due("no kind", x.look(0), -1);
        Due.due("look(2)", x.look(2), -2);
        Due.due("look(-1)", x.look(-1), -2);
    }

    private static void kinds() {
        Due.promise("promise 28");
        InnTurned x = new InnTurned();
        Due.due("no marks", x.kinds(), 63);
        x.mark(0, 2, 3);
        Due.due("keen, listening, book", x.kinds(), 2 + 8 + 32);
        x.mark(2, 1, 4);
        Due.due("keen, book", x.kinds(), 2 + 32);
        x.mark(3, 0, 10);
        Due.due("book", x.kinds(), 32);
        x.mark(3, 0, 5);
        Due.due("none", x.kinds(), 0);
        x.forget(2);
        x.mark(3, 9, 2);
        Due.due("drowsy, sleeper", x.kinds(), 4 + 16);
        x.mark(4, 9, 3);
        Due.due("drowsy", x.kinds(), 4);
        x.forget(2);
        x.mark(4, 9, -8);
        Due.due("listening", x.kinds(), 8);
        x.landlord(5);
        Due.due("not he who is there is asked for", x.kinds(), 8);
    }

    private static void ask() {
        Due.promise("promise 29");
        InnTurned x = new InnTurned();
        Due.due("all six apart", x.ask(), 40);
        x.mark(0, 2, 3);
        Due.due("keen, listening, book: 5, 4, 10", x.ask(), 10);
        x.mark(2, 1, 4);
        Due.due("keen, book: 5, 10", x.ask(), 0);
        x.forget(2);
        x.mark(3, 9, 2);
        Due.due("drowsy, sleeper", x.ask(), 40);
        x.mark(4, 9, 99);
        Due.due("one kind: the least", x.ask(), 0);
        x.mark(4, 9, 98);
        Due.due("no kind", x.ask(), -1);
    }

    private static void door() {
        Due.promise("promise 30");
        InnTurned x = Due.told("inn 0 0;one 0 4;one 0 5;");
        Due.due("not known: one comes, he does not listen", x.door(0), 2);
        Due.due("known: no pair rests", x.door(1), 0);
        x.comes(0);
        Due.due("known by the wheels", x.door(0), 0);
        Due.due("door(2)", x.door(2), -2);
        Due.due("door(-1)", x.door(-1), -2);
        x = Due.told("inn 0 1;one 0 4;come 0;");
        Due.due("one is in", x.door(0), -3);
        Due.due("nos", x.status(1), 1);
    }

    private static void rain() {
        Due.promise("promise 31");
        InnTurned x = Due.told("inn 2 1;one 0 5;one 0 4;one 0 9;");
        rainIs(x, 0, 0, 0, 1);
        rainIs(x, 0, 1, 1, 10);
        rainIs(x, 0, 2, 1, 5);
        rainIs(x, 0, 4, 2, 5);
        rainIs(x, 0, 5, 1, 2);
        rainIs(x, 0, 6, 3, 5);
        rainIs(x, 0, 7, 7, 10);
        rainIs(x, 0, 10, 1, 1);
        rainIs(x, 1, 3, 1, 1);
        rainIs(x, 2, 3, 0, 1);
        rainIs(x, 0, 8, 4, 5);
        Due.due("rain(0, 11)", x.rain(0, 11), -2);
        Due.due("rain(0, -1)", x.rain(0, -1), -2);
        Due.due("rain(3, 0)", x.rain(3, 0), -2);
        Due.due("rain(-1, 0)", x.rain(-1, 0), -2);
        x.comes(1);
        Due.due("one is in", x.rain(1, 5), -3);
        Due.due("BAD goes ahead of NO", x.rain(1, 11), -2);
        Due.due("the fraction stays", x.part(0) * 100 + x.part(1), 405);
        rainIs(x, 0, 10, 0, 1);
        x = Due.told("inn 3 1;one 0 2;");
        rainIs(x, 0, 3, 7, 10);
        Due.due("the night is as wet as it was", x.now(5), 0);
        x.wet(0, 4);
        rainIs(x, 0, 3, 0, 1);
        x = Due.told("inn 2 1;one 0 5;come 0;come 0;");
        rainIs(x, 0, 3, 3, 10);
        x.comes(0);
        rainIs(x, 0, 3, 0, 1);
    }

    private static void rainIs(InnTurned x, int i, int c, long above, long below) {
        Due.due("rain(" + i + ", " + c + ")", x.rain(i, c), 1);
        Due.due("above", x.part(0), above);
        Due.due("below", x.part(1), below);
    }

    private static void decades() {
        Due.promise("promise 32");
        InnTurned x = Due.told("inn 4 7;wet 4 4 4 4 4 4;one 0 0;one 0 0;one 0 0;one 0 0;one 0 0;");
        long was = x.digest();
        for (int seed = 0; seed < 20; seed++) {
            for (int n = 0; n <= 60; n += 4) Due.due("decades(" + seed + ", " + n + ")", x.decades(seed, n), toggled(seed, n, 5));
        }
        Due.due("decades(999999, 60)", x.decades(999999, 60), toggled(999999, 60, 5));
        Due.due("nothing is changed", x.digest(), was);
        Due.due("decades(-1, 0)", x.decades(-1, 0), -2);
        Due.due("decades(1000000, 0)", x.decades(1000000, 0), -2);
        Due.due("decades(0, -1)", x.decades(0, -1), -2);
        Due.due("decades(0, 61)", x.decades(0, 61), -2);
        x.comes(0);
        Due.due("no steps: who is in", x.decades(5, 0), 1);
        x = Due.told("inn 0 0;one 0 0;one 0 0;one 0 0;one 0 0;one 0 0;one 0 0;one 0 0;");
        Due.due("no rooms", x.decades(77, 60), 0);
        String told = "inn 2 2;wet 1 0 3 0 2 4;one 0 3;one 1 2;one 3 1;one 4 0;one 5 2;come 0;";
        for (int seed = 0; seed < 300; seed++) {
            for (int kind = 0; kind < 6; kind++) {
                x = Due.told(told);
                x.landlord(kind);
                int due = x.decades(seed, 60);
                Due.due("decades(" + seed + ", 60), landlord " + kind, due, stepped(x, seed, 60));
            }
        }
    }

    /** The same by comings, goings and nights themselves. */
    private static int stepped(InnTurned x, long seed, int n) {
        for (int k = 0; k < n; k++) {
            seed = (seed * 1103515245L + 12345L) % 2147483648L;
            int i = (int) (seed / 65536 % 8);
            if (i >= x.count(0)) x.nights(1);
            else if (x.of(i, 3) == 1) x.goes(i);
            else x.comes(i);
        }
        return x.count(1);
    }

    /** By a landlord who sleeps each night, with a room for each, who comes is in: one bit each. */
    private static int toggled(int seed, int n, int guests) {
        java.math.BigInteger x = java.math.BigInteger.valueOf(seed);
        int in = 0;
        for (int k = 0; k < n; k++) {
            x = x.multiply(java.math.BigInteger.valueOf(1103515245)).add(java.math.BigInteger.valueOf(12345));
            x = x.mod(java.math.BigInteger.valueOf(2147483648L));
            int i = x.divide(java.math.BigInteger.valueOf(65536)).intValue() % 8;
            if (i < guests) in ^= 1 << i;
        }
        return Integer.bitCount(in);
    }
}
