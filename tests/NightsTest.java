/** Promises 9 to 15: who comes and goes, letters, nights, what is undone, what of() and now() tell. */
public final class NightsTest {
    public static void main(String[] args) {
        comes();
        comesToManyWheels();
        goes();
        letter();
        nights();
        undo();
        undoIsForgotten();
        of();
        likely();
        now();
        Due.end();
    }

    private static void comes() {
        Due.promise("promise 9");
        InnTurned x = Due.told("inn 0 2;one 0 4;one 0 4;one 0 3;one 0 2;");
        Due.due("as likely as he lets pass", x.comes(0), 1);
        Due.due("in", x.of(0, 3), 1);
        Due.due("visits", x.of(0, 2), 1);
        Due.due("wheels", x.now(2), 1);
        Due.due("lets pass", x.now(4), 7);
        Due.due("likelier by one", x.comes(1), 0);
        Due.due("out", x.of(1, 3), 0);
        Due.due("no visit", x.of(1, 2), 0);
        Due.due("turned", x.now(3), 1);
        Due.due("wheels all the same", x.now(2), 2);
        Due.due("6 of 6", x.comes(2), 1);
        Due.due("no room", x.comes(3), 0);
        Due.due("turned", x.now(3), 2);
        Due.due("in already", x.comes(0), -3);
        Due.due("not there", x.comes(4), -2);
        Due.due("below", x.comes(-1), -2);
        Due.due("wheels", x.now(2), 4);
        Due.due("bads", x.status(0), 2);
        Due.due("nos", x.status(1), 1);
        Due.due("may be undone", x.count(7), 4);
    }

    private static void comesToManyWheels() {
        InnTurned x = Due.told("inn 4 7;wet 4;one 0 0;one 0 9;");
        for (int k = 1; k <= 100; k++) {
            Due.due("comes(0)", x.comes(0), 1);
            Due.due("visits", x.of(0, 2), Math.min(k, 99));
            Due.due("wheels", x.now(2), Math.min(k, 99));
            Due.due("goes(0)", x.goes(0), 0);
        }
        x.landlord(0);
        Due.due("lets pass", x.now(4), 8 - 99);
        Due.due("turned away", x.comes(1), 0);
        Due.due("wheels", x.now(2), 99);
        Due.due("ways of 99 wheels", x.order(-1), 0);
    }

    private static void goes() {
        Due.promise("promise 10");
        InnTurned x = Due.told("inn 0 3;one 0 0;one 0 0;one 0 0;come 0;come 1;");
        Due.due("goes(0)", x.goes(0), 1);
        Due.due("out", x.of(0, 3), 0);
        Due.due("visits stay", x.of(0, 2), 1);
        Due.due("wheels stay", x.now(2), 2);
        Due.due("goes(0) again", x.goes(0), -3);
        Due.due("never in", x.goes(2), -3);
        Due.due("goes(1)", x.goes(1), 0);
        Due.due("not there", x.goes(3), -2);
        Due.due("below", x.goes(-1), -2);
        Due.due("may be undone", x.count(7), 2);
    }

    private static void letter() {
        Due.promise("promise 11");
        InnTurned x = Due.told("inn 0 3;one 0 4;one 0 0;come 1;");
        Due.due("letter(0, 9)", x.letter(0, 9), 4);
        Due.due("word", x.of(0, 1), 9);
        Due.due("letter(0, 9) again", x.letter(0, 9), -3);
        Due.due("letter(0, 0)", x.letter(0, 0), 9);
        Due.due("of one who is in", x.letter(1, 5), 0);
        Due.due("letter(0, 10)", x.letter(0, 10), -2);
        Due.due("letter(0, -1)", x.letter(0, -1), -2);
        Due.due("letter(2, 0)", x.letter(2, 0), -2);
        Due.due("letter(-1, 0)", x.letter(-1, 0), -2);
        Due.due("may be undone", x.count(7), 3);
    }

    private static void nights() {
        Due.promise("promise 12");
        InnTurned x = Due.told("inn 0 3;one 0 0;come 0;");
        Due.due("nights(1)", x.nights(1), 1);
        Due.due("wheels", x.now(2), 0);
        Due.due("who is in stays", x.count(1), 1);
        Due.due("nights(99)", x.nights(99), 100);
        Due.due("nights(0)", x.nights(0), -2);
        Due.due("nights(-1)", x.nights(-1), -2);
        Due.due("nights(100)", x.nights(100), -2);
        Due.due("each is one that may be undone", x.count(7), 2);
        for (int k = 2; k <= 100; k++) x.nights(99);
        Due.due("night", x.count(2), 9901);
        Due.due("nights(98)", x.nights(98), 9999);
        x.goes(0);
        x.comes(0);
        Due.due("wheels", x.now(2), 1);
        Due.due("9999 stays", x.nights(1), 9999);
        Due.due("wheels", x.now(2), 0);
        Due.due("that may be undone, too", x.undo(), 9999);
        Due.due("wheels", x.now(2), 1);
        x.letter(0, 4);
        x.goes(0);
        Due.due("out, 10 of 7 now, of 8 then", x.when(0), -1);
        x.wet(4, 2);
        x.landlord(2);
        Due.due("the night behind 9999 is 10000", x.when(0), 1);
    }

    private static void undo() {
        Due.promise("promise 13");
        InnTurned x = Due.told("inn 0 1;one 0 4;one 0 0;");
        Due.due("nothing yet", x.undo(), -3);
        Due.due("nos", x.status(1), 1);
        long atFirst = x.digest();
        x.comes(0);
        long in = x.digest();
        x.comes(1);
        long turned = x.digest();
        x.nights(9);
        long later = x.digest();
        x.letter(0, 7);
        long letter = x.digest();
        x.goes(0);
        x.comes(0);
        Due.due("of six", x.count(7), 6);
        Due.due("undo of a coming turned away", x.undo(), 9);
        Due.due("undo of a going", x.undo(), 9);
        Due.due("as behind the letter", x.digest(), letter);
        Due.due("undo of a letter", x.undo(), 9);
        Due.due("as behind the nights", x.digest(), later);
        Due.due("undo of nights", x.undo(), 0);
        Due.due("as behind the one turned away", x.digest(), turned);
        Due.due("undo of one turned away", x.undo(), 0);
        Due.due("as behind the coming", x.digest(), in);
        Due.due("undo of a coming", x.undo(), 0);
        Due.due("as at first", x.digest(), atFirst);
        Due.due("no more", x.undo(), -3);
        undoOfSeven();
        x = Due.told("inn 0 1;one 0 4;one 0 0;");
        for (int k = 1; k <= 12; k++) {
            x.nights(1);
            Due.due("may be undone", x.count(7), Math.min(k, 8));
        }
        for (int k = 11; k >= 4; k--) Due.due("undo", x.undo(), k);
        Due.due("eight at most", x.undo(), -3);
    }

    private static void undoOfSeven() {
        InnTurned x = Due.told("inn 4 7;wet 4;one 0 1;one 1 2;one 2 3;one 3 4;one 4 5;one 5 6;one 0 7;");
        for (int round = 0; round < 3; round++) {
            long[] digests = new long[8];
            for (int k = 0; k < 8; k++) {
                digests[k] = x.digest();
                if (k == 7) x.letter(round, 9);
                else if (x.of(k, 3) == 1) x.goes(k);
                else x.comes(k);
            }
            for (int k = 7; k > round; k--) {
                x.undo();
                Due.due("as it was, but for what may be undone", x.digest(), digests[k]);
            }
            x.landlord(4);
        }
    }

    private static void undoIsForgotten() {
        InnTurned x = Due.told("inn 0 1;one 0 4;");
        x.nights(1);
        x.landlord(6);
        x.wet(6, 0);
        x.one(6, 0);
        x.inn(6, 0);
        x.letter(0, 4);
        x.comes(1);
        Due.due("what is refused forgets none, is none", x.count(7), 1);
        x.seen(0, 0, 0, 0);
        x.forget(0);
        x.rain(0, 5);
        x.decades(1, 60);
        x.order(-1);
        Due.due("what changes no night forgets none", x.count(7), 1);
        x.landlord(0);
        Due.due("a kind told, be it so already", x.undo(), -3);
        x.nights(1);
        x.wet(0, 0);
        Due.due("a wet told, be it so already", x.undo(), -3);
        x.nights(1);
        x.one(0, 0);
        Due.due("one more", x.undo(), -3);
        x.nights(1);
        x.inn(0, 1);
        Due.due("an inn", x.undo(), -3);
        for (int k = 0; k < 7; k++) x.one(0, 0);
        x.nights(1);
        Due.due("an eighth, refused", x.one(0, 0), -4);
        Due.due("undo", x.undo(), 0);
    }

    private static void of() {
        Due.promise("promise 14");
        InnTurned x = Due.told("inn 0 3;one 1 2;come 0;");
        int[] told = {1, 2, 1, 1, 9};
        for (int k = 0; k < 5; k++) Due.due("of(0, " + k + ")", x.of(0, k), told[k]);
        Due.due("of(0, 5)", x.of(0, 5), -2);
        Due.due("of(0, -1)", x.of(0, -1), -2);
        Due.due("of(1, 0)", x.of(1, 0), -2);
        Due.due("of(-1, 0)", x.of(-1, 0), -2);
        Due.due("bads", x.status(0), 4);
    }

    private static void likely() {
        InnTurned x = Due.told("inn 4 7;wet 4 4 4 4 4 4;one 0 3;one 1 3;one 2 3;one 3 3;one 4 3;one 5 3;");
        likelyAre(x, "word 3", 6, 10, 3, 10, 6, 3);
        visit(x);
        likelyAre(x, "word 3, once in", 7, 11, 3, 11, 7, 3);
        visit(x);
        likelyAre(x, "word 3, twice in", 8, 12, 4, 12, 8, 13);
        letters(x, 0);
        likelyAre(x, "no word, twice in", 2, 6, 1, 6, 2, 10);
        visit(x);
        visit(x);
        likelyAre(x, "no word, four times in", 4, 8, 2, 8, 3, 11);
        x.nights(4);
        likelyAre(x, "night 4", 4, 8, 2, 14, 3, 11);
        x.nights(1);
        likelyAre(x, "night 5", 4, 8, 2, 8, 3, 11);
        x.nights(6);
        likelyAre(x, "night 11", 4, 8, 2, 14, 3, 11);
        letters(x, 1);
        likelyAre(x, "word 1, night 11", 6, 10, 3, 16, 6, 12);
    }

    private static void likelyAre(InnTurned x, String when, int... likely) {
        for (int i = 0; i < likely.length; i++) Due.due(when + ", kind " + i, x.of(i, 4), likely[i]);
    }

    private static void visit(InnTurned x) {
        for (int i = 0; i < 6; i++) Due.due("comes", x.comes(i), 1);
        for (int i = 0; i < 6; i++) Due.due("goes", x.goes(i), 5 - i);
    }

    private static void letters(InnTurned x, int word) {
        for (int i = 0; i < 6; i++) x.letter(i, word);
    }

    private static void now() {
        Due.promise("promise 15");
        InnTurned x = Due.told("inn 3 5;wet 0 3;nights 1;one 0 9;come 0;come 0;come 0;");
        int[] told = {3, 5, 3, 3, -1, 3};
        for (int k = 0; k < 6; k++) Due.due("now(" + k + ")", x.now(k), told[k]);
        Due.due("now(6)", x.now(6), -1000);
        Due.due("now(-1)", x.now(-1), -1000);
        Due.due("they count as BAD", x.status(0), 2);
    }
}
