/** Promises 33 to 38: the fraction, images, status, counts, the digest. */
public final class KeptTest {
    public static void main(String[] args) {
        part();
        image();
        imageKeepsAll();
        status();
        count();
        digest();
        Due.end();
    }

    private static void part() {
        Due.promise("promise 33");
        InnTurned x = Due.told("inn 2 1;one 0 5;");
        Due.due("above at first", x.part(0), 0);
        Due.due("below at first", x.part(1), 1);
        x.rain(0, 6);
        Due.due("above", x.part(0), 3);
        Due.due("below", x.part(1), 5);
        Due.due("part(2)", x.part(2), -2);
        Due.due("part(-1)", x.part(-1), -2);
        Due.due("bads", x.status(0), 2);
        Due.read(x, "inn 0 1;");
        Due.due("a text leaves it", x.part(0), 3);
    }

    private static void image() {
        Due.promise("promise 34");
        InnTurned x = Due.told("inn 2 1;one 0 5;");
        Due.due("image(-1)", x.image(-1), -2);
        Due.due("image(2)", x.image(2), -2);
        Due.due("image(1)", x.image(1), 1);
        Due.promise("promise 35");
        Due.due("from(-1)", x.from(-1), -2);
        Due.due("from(2)", x.from(2), -2);
        Due.due("none was kept", x.from(0), -3);
        Due.due("bads", x.status(0), 4);
        Due.due("nos", x.status(1), 1);
        x.one(1, 1);
        Due.due("image(0)", x.image(0), 1);
        x.inn(0, 0);
        Due.due("from(1)", x.from(1), 1);
        Due.due("one traveller", x.count(0), 1);
        Due.due("from(0)", x.from(0), 1);
        Due.due("two", x.count(0), 2);
        Due.due("from(1) again", x.from(1), 1);
        x.letter(0, 9);
        Due.due("what comes later leaves the image", x.from(1), 1);
        Due.due("word", x.of(0, 1), 5);
        x.letter(0, 8);
        Due.due("kept anew", x.image(1), 1);
        x.letter(0, 7);
        x.from(1);
        Due.due("word", x.of(0, 1), 8);
    }

    private static void imageKeepsAll() {
        InnTurned x = full();
        long was = x.digest();
        x.image(0);
        Due.due("keeping changes nothing", x.digest(), was);
        x.rain(1, 3);
        x.type(59);
        x.inn(0, 7);
        for (int n = 0; n < 6; n++) x.wet(n, n % 5);
        for (int i = 0; i < 7; i++) x.one(1, 2);
        x.comes(0);
        x.nights(3);
        x.mark(1, 1, 1);
        x.from(0);
        Due.due("the fraction stays", x.part(0) * 100 + x.part(1), 310);
        Due.due("the text stays", x.count(8), 2);
        Due.due("bads stay", x.status(0), 1);
        x.rain(1, 6);
        x.clear();
        x.type(59);
        Due.due("but for these all is as it was", x.digest(), was);
        for (int k = 0; k < 3; k++) Due.holds("what may be undone, too", x.undo() >= 0);
        Due.due("no more", x.undo(), -3);
        x.from(0);
        Due.due("undoing leaves the image", x.count(7), 3);
    }

    private static InnTurned full() {
        InnTurned x = new InnTurned();
        x.inn(2, 4);
        for (int n = 0; n < 6; n++) x.wet(n, 4 - n % 3);
        x.wet(1, 0);
        x.one(1, 1);
        x.one(0, 5);
        x.one(5, 9);
        x.comes(0);
        x.nights(1);
        x.rain(1, 6);
        x.comes(1);
        x.seen(0, 1, 2, 1);
        x.seen(1, 3, 4, 0);
        x.note(2, 3, 4, 5, 6);
        x.mark(4, 3, -2);
        x.type(59);
        x.inn(9, 9);
        return x;
    }

    private static void status() {
        Due.promise("promise 36");
        InnTurned x = new InnTurned();
        Due.due("status(-1)", x.status(-1), -1);
        Due.due("status(3)", x.status(3), -1);
        Due.due("these count", x.status(0), 2);
        x.now(9);
        x.order(-2);
        x.part(2);
        x.count(9);
        Due.due("BAD under numbers of their own, too", x.status(0), 6);
        x.undo();
        x.from(0);
        Due.due("nos", x.status(1), 2);
        for (int k = 0; k < 9; k++) x.one(0, 0);
        Due.due("fulls", x.status(2), 2);
        x.read();
        x.order(9);
        x.when(0);
        x.tell(0);
        x.ask();
        Due.due("no others", x.status(0) * 100 + x.status(1) * 10 + x.status(2), 622);
        x.inn(0, 0);
        x.image(0);
        x.from(0);
        Due.due("they stay", x.status(0) * 100 + x.status(1) * 10 + x.status(2), 622);
    }

    private static void count() {
        Due.promise("promise 37");
        InnTurned x = full();
        int[] counts = {3, 1, 1, 1, 2, 1, 1, 3, 1};
        for (int k = 0; k < 9; k++) Due.due("count(" + k + ")", x.count(k), counts[k]);
        Due.due("count(9)", x.count(9), -2);
        Due.due("count(-1)", x.count(-1), -2);
        Due.due("bads", x.status(0), 3);
        x.goes(0);
        x.comes(0);
        Due.due("visits of all", x.count(3), 2);
    }

    private static void digest() {
        Due.promise("promise 38");
        Due.due("at first", new InnTurned().digest(), digestOf(0, 0, 0, 0, 0, 0, 0, 0, 0,
            0, 3, 0, 0, 0, 0, 0, 0, 0, 0, 0, 1));
        InnTurned x = full();
        long due = digestOf(3, 1, 1, 1, 2, 1, 1, 3, 1, 2, 4, 1, 1, 4, 0, 2, 4, 3, 2,
            1, 1, 1, 1, 0, 5, 0, 0, 5, 9, 0, 0, 0, 1, 2, 1, 1, 3, 4, 0, 2, 3, 4, 5, 6, 4, 3, -2, 3, 5);
        Due.due("of all", x.digest(), due);
        x.status(9);
        Due.due("not of the status", x.digest(), due);
        x.image(0);
        Due.due("nor of images", x.digest(), due);
    }

    private static long digestOf(long... values) {
        long h = 1709;
        for (long v : values) h = 31 * h + v;
        return h;
    }
}
