/**
 * What stands behind the second row of ======== and promises 16 to 32, where they name an edge: the least, the
 * greatest, like ones, none, beyond NIGHT 9999; and that nothing is changed. Each check bears the sentence.
 */
public final class AskedTest {
    public static void main(String[] args) {
        nothingIsChanged();
        may();
        whenNowAndLater();
        whenARoomIsFree();
        whenFarAhead();
        whenBeyondTheLastNight();
        penLeastAndGreatest();
        penOfOneWhoIsIn();
        orderOfNone();
        orderOfAll();
        orderByWetAndWheels();
        orderOfLikeOnes();
        seenOnes();
        oftenNumbers();
        oftenByNightAndWord();
        oftenWhateverIsNow();
        tellParts();
        tellWhateverIsNow();
        notes();
        is();
        look();
        marks();
        kinds();
        ask();
        door();
        rain();
        decadesNumbers();
        decadesGoOn();
        decadesBeyondTheLastNight();
        Due.end();
    }

    private static void nothingIsChanged() {
        Due.promise("\"(Nothing is changed by these ..)\"");
        InnTurned y = Inns.full();
        long[] due = Inns.trace(y);
        String[] names = {"may", "when", "pen", "order", "often", "tell", "is", "look", "kinds", "ask", "door", "decades", "of",
            "now", "count", "status", "part", "digest"};
        for (String name : names) {
            InnTurned x = Inns.full();
            for (int i = 0; i < 9; i++) {
                for (int k = 0; k < 3; k++) Inns.ask(x, name, i, k);
            }
            long[] is = Inns.trace(x);
            for (int k = 0; k < due.length; k++) Due.due("answer " + k + " behind " + name, is[k], due[k]);
        }
        InnTurned x = Inns.full();
        for (int c = 0; c <= 10; c++) x.rain(6, c);
        x.rain(6, 3);
        long[] is = Inns.trace(x);
        for (int k = 0; k < due.length; k++) Due.due("answer " + k + " behind rain, but THE FRACTION", is[k], due[k]);
    }

    private static void may() {
        Due.promise("promise 16: TRAVELLERS who are OUT and would be IN, coming now");
        Due.due("nobody", new InnTurned().may(), 0);
        InnTurned x = Due.told("inn 0 7;one 0 4;one 0 5;one 0 0;one 0 4;one 0 0;one 2 8;one 2 9;");
        Due.due("as LIKELY as he LETS PASS, not more", x.may(), 1 + 4 + 8 + 16 + 32);
        x.comes(2);
        Due.due("one is IN, a wheel more", x.may(), 16);
        x.nights(1);
        Due.due("without wheels", x.may(), 1 + 8 + 16 + 32);
        x = Due.told("inn 0 1;one 0 0;one 0 0;");
        x.comes(0);
        Due.due("the last ROOM is not free", x.may(), 0);
        x.goes(0);
        Due.due("the last ROOM is free", x.may(), 3);
        x = Due.told("inn 2 7;wet 1;one 3 2;one 0 4;nights 4;");
        Due.due("a king on night 4", x.may(), 2);
        x.wet(4, 4);
        Due.due("as wet as on this night", x.may(), 2);
        x.letter(0, 1);
        Due.due("12 of 12", x.may(), 3);
    }

    private static void whenNowAndLater() {
        Due.promise("\"0: now\", \"(0: with WHEELS as now; else without)\"");
        InnTurned x = Due.told("inn 0 3;one 0 4;one 0 3;one 0 9;");
        Due.due("8 of 8 now", x.when(0), 0);
        x.comes(2);
        Due.due("8 of 7 now, of 8 on the next", x.when(0), 1);
        Due.due("6 of 7 now", x.when(1), 0);
        x.comes(2);
        Due.due("6 of 6 now", x.when(1), 0);
        x.comes(2);
        Due.due("6 of 5 now", x.when(1), 1);
        x.landlord(5);
        x.letter(1, 5);
        Due.due("of a BOOK 10 on the next", x.when(1), 1);
        Due.due("none", x.when(2), -1);
        x.nights(1);
        Due.due("the next", x.when(1), 0);
        Due.promise("promise 17: WHEN beyond the next NIGHTS, by WET");
        for (int night = 0; night < 6; night++) {
            for (int wet = 0; wet < 6; wet++) {
                x = Due.told("inn 2 3;one 0 6;");
                x.wet(wet, 4);
                if (night > 0) x.nights(night);
                Due.due("12 of 12 on night " + wet + " of 6, from " + night, x.when(0), (wet - night + 6) % 6);
            }
        }
    }

    private static void whenARoomIsFree() {
        Due.promise("\"if a ROOM is free now\", promise 17: \"NONE (one is IN, too)\"");
        InnTurned x = Due.told("inn 0 0;one 0 0;");
        Due.due("no ROOM at all", x.when(0), -1);
        x = Due.told("inn 0 2;one 0 0;one 0 0;one 0 0;come 0;");
        Due.due("one is IN, a ROOM being free", x.when(0), -1);
        Due.due("the last ROOM is free", x.when(1), 0);
        x.comes(1);
        Due.due("no ROOM is free", x.when(2), -1);
        x.goes(0);
        Due.due("one is free", x.when(2), 0);
        Due.due("he who went", x.when(0), 0);
        Due.due("no refusals", x.status(0) + x.status(1) + x.status(2), 0);
    }

    /** KING and WET go round together, so that none need wait more than 12 nights. */
    private static void whenFarAhead() {
        Due.promise("\"in how many NIGHTS (0 .. 60)\"");
        for (int night = 0; night < 84; night++) {
            InnTurned x = Due.told("inn 2 3;wet 0 0 4;one 3 4;");
            if (night > 0) x.nights(night);
            int due = 0;
            while ((night + due) % 6 != 2 || (night + due) % 7 == 4) due++;
            Due.due("from night " + night, x.when(0), due);
        }
        InnTurned x = Due.told("inn 2 3;wet 0 0 4;one 3 4;one 0 9;nights 26;");
        x.nights(6);
        Due.due("night 32 is the king's, so 38", x.when(0), 6);
        x = Due.told("inn 2 3;wet 0 0 4;one 3 4;one 0 9;nights 26;come 1;");
        Due.due("too many wheels now, the king's in 6, so in 12", x.when(0), 12);
    }

    /** 9999 is 3 behind a night that 42 measures, so that an inn on NIGHT 3 is like it. */
    private static void whenBeyondTheLastNight() {
        Due.promise("\"NIGHTS go beyond 9999 in them\": WHEN");
        String text = "inn 2 3;wet 1 0 2 0 0 0;one 3 2;one 0 5;one 0 9;";
        InnTurned x = Inns.late(text), y = Due.told(text + "nights 3;");
        for (int wheels = 0; wheels < 3; wheels++) {
            for (int i = 0; i < 3; i++) {
                for (int word = 0; word <= 9; word++) {
                    for (InnTurned z : new InnTurned[] {x, y}) z.letter(i, word);
                    Due.due("when(" + i + "), word " + word, x.when(i), y.when(i));
                }
            }
            for (InnTurned z : new InnTurned[] {x, y}) {
                z.letter(2, 9);
                z.comes(2);
            }
        }
        x = Inns.late("inn 0 3;one 3 2;one 0 9;");
        x.comes(1);
        Due.due("the king's is night 10000, so in 2", x.when(0), 2);
        x = Inns.late("inn 2 3;wet 0 0 0 0 2;one 0 5;");
        Due.due("10 of 10 on night 10000", x.when(0), 1);
        x.wet(4, 0);
        x.wet(2, 2);
        Due.due("10 of 10 on night 10004", x.when(0), 5);
        Due.due("the night stays", x.count(2), 9999);
    }

    private static void penLeastAndGreatest() {
        Due.promise("\"the greatest WORD (0 .. 9) with which one would be let IN, coming now\"");
        InnTurned x = Due.told("inn 4 3;wet 4;one 0 0;one 0 0;");
        Due.due("9 of the sleeper", x.pen(0), 9);
        x.landlord(0);
        Due.due("4 of 8", x.pen(0), 4);
        for (int wheels = 1; wheels <= 10; wheels++) {
            x.letter(1, 9);
            x.comes(1);
            Due.due("of 8 less " + wheels, x.pen(0), wheels > 8 ? -1 : (8 - wheels) / 2);
        }
        x.letter(0, 9);
        x.nights(1);
        Due.due("whatever WORD one has sent", x.pen(0), 4);
        x = Due.told("inn 0 3;one 3 0;nights 4;");
        Due.due("none for a king on night 4: 10 of 8", x.pen(0), -1);
        x.nights(1);
        Due.due("a king on night 5", x.pen(0), 2);
        x = Due.told("inn 2 3;wet 0 0 0 0 4;one 3 0;nights 4;");
        Due.due("a king on night 4: 12 of 12", x.pen(0), 1);
        x = Due.told("inn 1 3;one 4 0;wet 0;");
        x.landlord(0);
        for (int v = 1; v <= 7; v++) {
            x.nights(1);
            x.comes(0);
            x.goes(0);
        }
        x.nights(1);
        Due.due("a beard, in 7 times: 7 of 8 with no word", x.pen(0), 0);
        Due.due("the WORD stays", x.of(0, 1), 0);
    }

    private static void penOfOneWhoIsIn() {
        Due.promise("promise 18: \"NONE (one is IN, too)\"");
        InnTurned x = Due.told("inn 0 2;one 0 0;one 0 0;one 0 0;come 0;");
        Due.due("one is IN, a ROOM being free", x.pen(0), -1);
        Due.due("the last ROOM is free", x.pen(1), 3);
        x.comes(1);
        Due.due("no ROOM is free", x.pen(2), -1);
        x.inn(0, 0);
        x.one(0, 0);
        Due.due("no ROOM at all", x.pen(0), -1);
        Due.due("no refusals", x.status(0) + x.status(1) + x.status(2), 0);
    }

    private static void orderOfNone() {
        Due.promise("promise 19: -5: not so many; BAD: -10: k below -1");
        InnTurned x = Due.told("inn 0 7;one 0 0;one 0 1;come 0;come 1;");
        Due.due("all are IN: none of them", x.order(-1), 0);
        Due.due("none comes first", x.order(0), -5);
        Due.due("no refusal", x.status(0), 0);
        Due.due("-2", x.order(-2), -10);
        Due.due("counts as BAD", x.status(0), 1);
        x.goes(0);
        Due.due("one is OUT", x.order(0), 0);
        Due.due("no second", x.order(1), -5);
        x = new InnTurned();
        Due.due("nobody there", x.order(-1), 0);
        Due.due("nobody first", x.order(0), -5);
        x = Due.told("inn 0 0;one 0 9;one 0 0;");
        Due.due("no ROOM, none IN", x.order(-1), 0);
        Due.due("they come all the same", x.order(0) * 10 + x.order(1), 1);
        Due.due("not so many", x.order(2), -5);
    }

    private static void orderOfAll() {
        Due.promise("promise 19: all who are OUT come, each once");
        InnTurned x = Due.told("inn 4 7;wet 4;");
        for (int i = 0; i < 7; i++) x.one(0, 9 - i);
        Due.due("all seven", x.order(-1), 7);
        for (int k = 0; k < 7; k++) Due.due("rising", x.order(k), k);
        Due.due("no eighth", x.order(7), -5);
        x.landlord(0);
        for (int i = 0; i < 7; i++) x.letter(i, i < 4 ? i + 1 : 0);
        Due.due("8, 6, 4, 2 and 0 as LIKELY, of 8, 7, 6 ..: all", x.order(-1), 7);
        int[] due = {3, 0, 2, 1, 4, 5, 6};
        for (int k = 0; k < 7; k++) Due.due("the " + k + "-th", x.order(k), due[k]);
        stepped(x);
        for (int i = 0; i < 7; i++) x.letter(i, 6 - i);
        stepped(x);
        for (int i = 0; i < 7; i++) x.letter(i, i == 6 ? 0 : 4);
        stepped(x);
    }

    /** So many are in behind that order, when they come so. */
    private static void stepped(InnTurned x) {
        int due = x.order(-1), were = x.count(1), out = x.count(0) - were, in = 0;
        int[] order = new int[out];
        for (int k = 0; k < out; k++) order[k] = x.order(k);
        x.image(0);
        for (int i : order) in += x.comes(i);
        Due.due("so many of them are IN", in, due);
        Due.due("so many are IN", x.count(1), were + due);
        x.from(0);
    }

    private static void orderByWetAndWheels() {
        Due.promise("promise 19: from now on (as WET as it is, with WHEELS as now), if a ROOM is free");
        InnTurned x = Due.told("inn 2 7;wet 3;one 0 5;one 0 5;one 0 5;");
        Due.due("10, 10, 10 of 11, 10, 9", x.order(-1), 2);
        x.wet(0, 4);
        Due.due("of 12, 11, 10", x.order(-1), 3);
        x.one(0, 9);
        x.comes(3);
        Due.due("of 11, 10, 9, 8", x.order(-1), 2);
        x.comes(3);
        x.comes(3);
        Due.due("of 9, 8, 7", x.order(-1), 0);
        x.nights(1);
        Due.due("of 8, 7, 6 on a dry night", x.order(-1), 0);
        x.letter(0, 4);
        x.letter(1, 3);
        Due.due("8, 6 of 8, 7", x.order(-1), 2);
        x = Due.told("inn 0 3;one 0 0;one 0 1;one 0 2;one 0 3;one 0 0;come 0;come 4;");
        Due.due("the last ROOM", x.order(-1), 1);
        Due.due("rising", x.order(0) * 100 + x.order(1) * 10 + x.order(2), 123);
        x.goes(0);
        Due.due("two ROOMS: 2, 4, 6, 0 of 6, 5, 4, 3", x.order(-1), 2);
        Due.due("rising", x.order(0) * 1000 + x.order(1) * 100 + x.order(2) * 10 + x.order(3), 123);
        x = Due.told("inn 0 7;one 3 0;one 0 0;nights 4;");
        Due.due("a king on night 4 is not let in", x.order(-1), 1);
        x = Due.told("inn 5 7;one 0 5;one 0 2;one 0 2;");
        Due.due("a BOOK: 10, 4, 4 of 10, 4, 3", x.order(-1), 2);
        x = Due.told("inn 5 7;one 0 6;one 0 2;one 0 6;one 0 6;one 0 6;one 0 6;one 0 5;");
        Due.due("10 must be first, 4 behind it", x.order(-1) * 100 + x.order(0) * 10 + x.order(1), 261);
        for (int k = 2; k < 7; k++) Due.due("the others, rising", x.order(k), k == 2 ? 0 : k - 1);
    }

    private static void orderOfLikeOnes() {
        Due.promise("promise 19: the first such order (TRAVELLERS rising)");
        InnTurned x = Due.told("inn 0 7;one 0 2;one 0 4;one 0 3;one 0 9;");
        Due.due("8, 6, 4 of 8, 7, 6: three", x.order(-1), 3);
        Due.due("1 must be first; then rising will do", x.order(0) * 1000 + x.order(1) * 100 + x.order(2) * 10 + x.order(3), 1023);
        x = Due.told("inn 0 7;one 0 0;one 0 9;one 0 0;one 0 1;");
        Due.due("all but one", x.order(-1), 3);
        Due.due("rising", x.order(0) * 1000 + x.order(1) * 100 + x.order(2) * 10 + x.order(3), 123);
        x = Due.told("inn 0 7;one 0 9;one 0 4;one 0 3;");
        Due.due("he who is not let in comes as soon as may be", x.order(0) * 100 + x.order(1) * 10 + x.order(2), 102);
    }

    private static void seenOnes() {
        Due.promise("\"SEEN 0 .. 4, as they come\"");
        InnTurned x = Due.told("inn 0 3;one 0 0;one 0 0;");
        for (int k = 1; k <= 5; k++) {
            Due.due("seen", x.seen(k % 2, 0, 99, 0), k);
            Due.due("there are", x.count(4), k);
        }
        Due.due("a sixth", x.seen(0, 0, 0, 0), -4);
        Due.due("forgotten", x.forget(0), 5);
        Due.due("the first again", x.seen(0, 0, 0, 0), 1);
        Due.due("one like it", x.seen(0, 0, 0, 0), 2);
        Due.due("one who is IN may be SEEN", x.comes(1) * 10 + x.seen(1, 1, 1, 1), 13);
    }

    private static void oftenNumbers() {
        Due.promise("\"VISITS (0 .. 30) .. how many; the least; the greatest (NONE: none)\"");
        InnTurned x = Due.told("inn 0 3;one 0 0;one 2 0;");
        often(x, 0, 31, 0, 30);
        x.seen(0, 4, 0, 1);
        often(x, 0, 1, 0, 0);
        often(x, 1, 31, 0, 30);
        x.seen(0, 4, 0, 0);
        often(x, 0, 0, -1, -1);
        x.forget(0);
        x.seen(0, 4, 0, 0);
        often(x, 0, 30, 1, 30);
        x.seen(0, 0, 0, 1);
        often(x, 0, 8, 1, 8);
        x.seen(0, 1, 0, 0);
        often(x, 0, 2, 7, 8);
        x.forget(0);
        x.seen(1, 0, 0, 0);
        often(x, 1, 13, 18, 30);
        x.landlord(2);
        x.wet(0, 4);
        often(x, 1, 5, 26, 30);
        x.landlord(4);
        often(x, 1, 0, -1, -1);
        often(x, 0, 31, 0, 30);
    }

    private static void oftenByNightAndWord() {
        Due.promise("\"having sent WORD w (0 .. 9), coming first thing (no WHEELS) on NIGHT n (0 .. 99)\"");
        InnTurned x = Due.told("inn 2 3;wet 0 0 0 4;one 3 0;one 0 9;");
        x.seen(0, 0, 99, 1);
        often(x, 0, 9, 0, 8);
        x.forget(0);
        x.seen(0, 0, 95, 1);
        often(x, 0, 0, -1, -1);
        x.forget(0);
        x.seen(0, 0, 81, 1);
        often(x, 0, 3, 0, 2);
        x.forget(0);
        x.seen(0, 4, 93, 1);
        often(x, 0, 1, 0, 0);
        x.seen(0, 5, 93, 0);
        often(x, 0, 1, 0, 0);
        x.seen(1, 9, 0, 0);
        x.seen(1, 0, 3, 1);
        often(x, 1, 13, 0, 12);
        x.seen(1, 0, 4, 0);
        often(x, 1, 4, 9, 12);
    }

    private static void often(InnTurned x, int i, int many, int least, int greatest) {
        Due.due("often(" + i + ", 0)", x.often(i, 0), many);
        Due.due("often(" + i + ", 1)", x.often(i, 1), least);
        Due.due("often(" + i + ", 2)", x.often(i, 2), greatest);
    }

    private static void oftenWhateverIsNow() {
        Due.promise("\"a ROOM being free, by THE LANDLORD as he is\": whatever one is now");
        InnTurned x = Due.told("inn 0 1;one 0 3;one 0 9;");
        x.seen(0, 1, 9, 1);
        often(x, 0, 7, 0, 6);
        x.comes(1);
        often(x, 0, 7, 0, 6);
        x.letter(0, 0);
        x.comes(0);
        Due.due("one is IN, no ROOM is free", x.count(1), 1);
        often(x, 0, 7, 0, 6);
        x.goes(0);
        x.nights(4);
        often(x, 0, 7, 0, 6);
        x.undo();
        often(x, 0, 7, 0, 6);
        x.wet(3, 4);
        often(x, 0, 7, 0, 6);
        x.landlord(2);
        often(x, 0, 11, 0, 10);
        x.wet(3, 0);
        often(x, 0, 7, 0, 6);
        x.landlord(5);
        often(x, 0, 9, 0, 8);
    }

    private static void tellParts() {
        Due.promise("\"10 n and w (n 0 .. 13, w 0 .. 9) by which .. the greater part of these is least\"");
        InnTurned x = Due.told("inn 0 3;one 0 0;");
        x.seen(0, 1, 0, 1);
        Due.due("0 to 6: by word 2 five of 7, by 3 three of 7; 4 of 7 is least", x.tell(0), 3);
        x.forget(0);
        x.seen(0, 0, 0, 1);
        Due.due("0 to 8: by word 2 five of 9", x.tell(0), 2);
        x.forget(0);
        x.wet(2, 2);
        x.landlord(2);
        Due.due("0 to 30: 11 of 31 on night 2", x.tell(0), 20);
        x = Due.told("inn 0 3;one 5 0;");
        Due.due("a prophet: 0 and 1 alone are let in, be the word 8 (9: none)", x.often(0, 0) * 1000 + x.tell(0), 31000);
        x = Due.told("inn 0 3;one 3 0;wet 0 0 0 0 4;");
        x.landlord(2);
        Due.due("a king: on night 10, the first as wet that is not his", x.tell(0), 100);
        x.landlord(4);
        Due.due("all alike where he sleeps", x.tell(0), 0);
        Due.promise("\"of like ones the least; none: no number\"");
        x = Due.told("inn 0 3;one 0 0;");
        x.seen(0, 4, 0, 1);
        Due.due("one number: the least", x.tell(0), 0);
        x.seen(0, 4, 6, 0);
        Due.due("no number", x.tell(0), -1);
        x = Due.told("inn 0 3;one 2 0;wet 0 0 0 0 0 0;");
        x.landlord(2);
        x.wet(5, 4);
        x.seen(0, 0, 0, 0);
        Due.due("18 to 30: on night 5 alone some are let in, by word 0 eight of 13, by word 1 six", x.tell(0), 51);
    }

    private static void tellWhateverIsNow() {
        Due.promise("promise 22: TELL, whatever one is now");
        InnTurned x = Due.told("inn 0 1;one 0 3;one 0 9;");
        x.seen(0, 0, 9, 1);
        Due.due("tell", x.tell(0), 2);
        x.comes(1);
        Due.due("a wheel", x.tell(0), 2);
        x.comes(0);
        Due.due("one is IN, no ROOM is free", x.tell(0) * 10 + x.count(1), 21);
        x.nights(4);
        x.letter(0, 9);
        Due.due("on a later night, with another word", x.tell(0), 2);
        x.seen(1, 4, 0, 1);
        x.seen(1, 4, 0, 0);
        Due.due("of all SEEN ones only one's", x.tell(0), 2);
        Due.due("none of the other", x.tell(1), -1);
        Due.due("no refusals", x.status(0) + x.status(1) + x.status(2), 0);
    }

    private static void notes() {
        Due.promise("\"NOTES 0 .. 5, as they come\"");
        InnTurned x = Due.told("inn 0 3;one 0 0;one 0 0;");
        for (int k = 1; k <= 6; k++) {
            Due.due("note", x.note(k % 2, 9, 9, 99, 60), k);
            Due.due("there are", x.count(5), k);
        }
        Due.due("a seventh", x.note(0, 0, 0, 0, 0), -4);
        Due.due("forgotten", x.forget(1), 6);
        Due.due("the first again", x.note(0, 0, 0, 0, 0), 1);
        Due.due("one like it", x.note(0, 0, 0, 0, 0), 2);
    }

    private static void is() {
        Due.promise("promise 26: KINDS (bits) by which all NOTES of one are so");
        int[][] notes = {{0, 0, 0, 0, 1 + 4 + 16 + 32}, {0, 0, 0, 4, 2 + 8}, {0, 0, 4, 4, 2}, {0, 0, 4, 10, 8}, {0, 3, 0, 3, 1 + 16},
            {0, 3, 0, 1, 4}, {0, 4, 0, 3, 16}, {0, 4, 0, 4, 1}, {0, 2, 0, 10, 32}, {0, 1, 0, 0, 4 + 32}, {1, 4, 0, 6, 1 + 16},
            {9, 9, 99, 27, 1 + 16}, {9, 9, 99, 31, 2 + 8}, {9, 9, 99, 13, 4}, {9, 9, 99, 22, 32}, {9, 9, 95, 37, 8},
            {9, 9, 95, 31, 2}, {9, 9, 95, 60, 0}, {9, 9, 99, 60, 0}, {0, 0, 11, 10, 8}, {0, 0, 18, 4, 2}, {0, 0, 99, 4, 2 + 8}};
        for (int[] n : notes) {
            InnTurned x = Due.told("inn 0 3;one 3 7;one 0 0;");
            Due.due("no NOTES", x.is(0), 63);
            x.note(0, n[0], n[1], n[2], n[3]);
            Due.due("w " + n[0] + ", v " + n[1] + ", n " + n[2] + ", x " + n[3], x.is(0), n[4]);
            Due.due("of the other", x.is(1), 63);
            x.note(1, 0, 0, 0, 60);
            Due.due("another's do not count", x.is(0), n[4]);
            x.note(0, n[0], n[1], n[2], n[3]);
            Due.due("told twice", x.is(0), n[4]);
            x.note(0, 0, 0, 0, 60);
            Due.due("all must be so", x.is(0), 0);
        }
    }

    private static void look() {
        Due.promise("\"LOOK: 100 v and n (v 0 .. 9, n 0 .. 6), WORD as it is\", \"of like ones the least; none: no KIND\"");
        InnTurned x = Due.told("inn 0 3;one 0 0;one 1 0;");
        Due.due("with no word all six are apart by v 4 on night 4", x.look(0), 404);
        x.letter(0, 1);
        Due.due("with a word PLAIN and BEARD are alike", x.look(0), 0);
        x.note(0, 0, 0, 0, 0);
        Due.due("no REGULAR, no KING: two alike", x.is(0) * 1000 + x.look(0), 53000);
        x.letter(0, 0);
        Due.due("four apart by v 4", x.look(0), 400);
        x.note(0, 0, 3, 0, 3);
        Due.due("PLAIN, BEARD", x.is(0) * 1000 + x.look(0), 17400);
        x.forget(1);
        x.note(0, 1, 2, 0, 2);
        Due.due("POOR", x.is(0) * 1000 + x.look(0), 4000);
        x.forget(1);
        x.note(0, 0, 0, 0, 4);
        Due.due("REGULAR, KING by night 4", x.is(0) * 1000 + x.look(0), 10004);
        x.note(0, 0, 0, 4, 4);
        Due.due("one kind", x.is(0) * 1000 + x.look(0), 2000);
        x.note(0, 0, 0, 4, 10);
        Due.due("no KIND", x.is(0) * 1000 + x.look(0), -1);
        Due.due("of the other", x.look(1), 404);
        x.letter(1, 1);
        x.note(1, 0, 1, 0, 0);
        Due.due("POOR, PROPHET by v 2", x.is(1) * 1000 + x.look(1), 36200);
        Due.due("of the first", x.look(0), -1);
        Due.due("no refusals", x.status(0) + x.status(1) + x.status(2), 0);
        x.comes(1);
        x.landlord(3);
        Due.due("one who is IN, by any landlord", x.look(1), 200);
    }

    private static void marks() {
        Due.promise("\"MARKS 0 .. 5, as they come\"");
        InnTurned x = new InnTurned();
        for (int k = 1; k <= 6; k++) {
            Due.due("mark", x.mark(4, 9, k % 2 == 0 ? -20 : 99), k);
            Due.due("there are", x.count(6), k);
        }
        Due.due("a seventh", x.mark(0, 0, 0), -4);
        Due.due("forgotten", x.forget(2), 6);
        Due.due("the first again", x.mark(0, 0, 8), 1);
        Due.due("one like it", x.mark(0, 0, 8), 2);
        Due.due("told twice", x.kinds(), 1 + 4 + 16);
    }

    private static void kinds() {
        Due.promise("promise 28: KINDS of LANDLORDS (bits) by which all MARKS are so");
        int[][] marks = {{0, 0, 8, 1 + 4 + 16}, {0, 0, 5, 2 + 8}, {0, 0, 10, 32}, {0, 1, 4, 2 + 8 + 32}, {0, 9, -1, 1 + 4 + 16},
            {0, 9, -4, 2 + 8 + 32}, {4, 9, -8, 8}, {4, 9, 3, 4}, {4, 9, 99, 16}, {4, 0, 99, 16}, {4, 0, 12, 4}, {3, 0, 11, 4 + 16},
            {4, 0, 1, 8}, {4, 0, 98, 0}, {4, 9, -20, 0}, {1, 0, 4, 8}, {2, 0, 10, 4 + 16 + 32}, {3, 5, 3, 1}, {3, 5, 6, 4 + 16}};
        for (int[] m : marks) {
            InnTurned x = new InnTurned();
            Due.due("no MARKS", x.kinds(), 63);
            x.mark(m[0], m[1], m[2]);
            Due.due("x " + m[0] + ", a " + m[1] + ", y " + m[2], x.kinds(), m[3]);
            x.mark(m[0], m[1], m[2]);
            Due.due("told twice", x.kinds(), m[3]);
            x.mark(0, 0, 99);
            Due.due("all must be so", x.kinds(), 0);
        }
    }

    private static void ask() {
        Due.promise("promise 29: ASK: 10 x and a; of like ones the least; NONE: no KIND");
        InnTurned x = new InnTurned();
        Due.due("all six are apart where he sleeps", x.ask(), 40);
        x.mark(0, 1, 4);
        Due.due("KEEN, LISTENING, BOOK by x 1", x.kinds() * 100 + x.ask(), 4210);
        x.mark(0, 0, 5);
        Due.due("KEEN, LISTENING by x 1", x.kinds() * 100 + x.ask(), 1010);
        x.mark(4, 9, -8);
        Due.due("one kind", x.kinds() * 100 + x.ask(), 800);
        x.mark(4, 9, 8);
        Due.due("no KIND", x.kinds() * 100 + x.ask(), -1);
        x.forget(2);
        x.mark(0, 1, 4);
        x.mark(4, 1, 4);
        Due.due("KEEN, BOOK by x 0, a 0", x.kinds() * 100 + x.ask(), 3400);
        x.forget(2);
        x.mark(2, 0, 10);
        Due.due("DROWSY, SLEEPER, BOOK by x 4", x.kinds() * 100 + x.ask(), 5240);
        Due.due("no refusals", x.status(0) + x.status(1) + x.status(2), 0);
    }

    private static void door() {
        Due.promise("\"one is KNOWN, if more LIKELY than he LETS PASS now\": pairs that rest");
        for (int wheels = 0; wheels <= 9; wheels++) {
            for (int word = 0; word <= 9; word++) {
                InnTurned x = Due.told("inn 0 " + wheels % 2 + ";one 0 9;one 0 " + word + ";");
                for (int k = 0; k < wheels; k++) x.comes(0);
                Due.due("2 times " + word + " of 8 less " + wheels, x.door(1), 2 * word > 8 - wheels ? 0 : 2);
            }
        }
        InnTurned x = Due.told("inn 0 2;one 0 0;one 0 0;come 0;");
        Due.due("one is IN", x.door(0), -3);
        Due.due("counts as NO", x.status(1), 1);
        x = Due.told("inn 0 2;one 3 2;nights 3;");
        Due.due("a king on night 3", x.door(0), 2);
        x.nights(1);
        Due.due("on night 4", x.door(0), 0);
    }

    private static void rain() {
        Due.promise("promise 31: by c of 10 (0 .. 10) this NIGHT is WET by 4 instead");
        InnTurned x = Due.told("inn 2 1;wet 3 4;one 0 6;one 0 9;one 0 0;");
        rainIs(x, 0, 0, 0, 1);
        rainIs(x, 0, 10, 1, 1);
        rainIs(x, 0, 1, 1, 10);
        x.comes(1);
        rainIs(x, 0, 10, 0, 1);
        x.nights(1);
        for (int c = 0; c <= 10; c += 5) rainIs(x, 0, c, 1, 1);
        x.comes(2);
        for (int c = 0; c <= 10; c += 5) rainIs(x, 0, c, 0, 1);
        Due.due("WET stays", x.now(5), 4);
        x.nights(5);
        Due.due("WET stays", x.now(5), 3);
        x = Due.told("inn 4 1;wet 0;one 0 9;one 0 0;");
        rainIs(x, 0, 4, 2, 5);
        x.landlord(3);
        x.letter(0, 1);
        rainIs(x, 0, 4, 3, 5);
        x.letter(0, 0);
        rainIs(x, 0, 4, 1, 1);
        x.letter(0, 3);
        rainIs(x, 0, 4, 0, 1);
        x = Due.told("inn 4 0;one 0 0;");
        for (int c = 0; c <= 10; c += 5) rainIs(x, 0, c, 0, 1);
        x = Due.told("inn 4 3;one 3 9;nights 4;");
        rainIs(x, 0, 7, 7, 10);
    }

    private static void rainIs(InnTurned x, int i, int c, long above, long below) {
        Due.due("rain(" + i + ", " + c + ")", x.rain(i, c), 1);
        Due.due("above of " + c, x.part(0), above);
        Due.due("below of " + c, x.part(1), below);
    }

    private static void decadesNumbers() {
        Due.promise("\"DECADES by a SEED (0 .. 999999), n (0 .. 60)\"");
        InnTurned x = Due.told("inn 4 7;wet 4 4 4 4 4 4;one 0 0;one 0 0;one 0 0;come 1;");
        for (int seed : new int[] {0, 1, 999999}) Due.due("none come, none go: who is IN", x.decades(seed, 0), 1);
        Due.due("nobody there", new InnTurned().decades(999999, 60), 0);
        Due.due("12345 by 65536 is 0: the first comes", x.decades(0, 1), 2);
        long seed = 0;
        while (((seed * 1103515245L + 12345L) % 2147483648L / 65536L) % 8L != 1) seed++;
        Due.due("the second goes", x.decades((int) seed, 1), 0);
        seed = 0;
        while (((seed * 1103515245L + 12345L) % 2147483648L / 65536L) % 8L < 3) seed++;
        Due.due("not there: a NIGHT goes by", x.decades((int) seed, 1), 1);
        for (int s = 0; s < 999999; s += 99991) {
            for (int n = 0; n <= 60; n++) Due.due("decades(" + s + ", " + n + ")", x.decades(s, n), lit(s, n, 2, 3));
            x = Due.told("inn 4 7;wet 4 4 4 4 4 4;one 0 0;one 0 0;one 0 0;come 1;");
        }
        for (int n = 58; n <= 60; n++) Due.due("decades(999999, " + n + ")", x.decades(999999, n), lit(999999, n, 2, 3));
    }

    /** By a sleeper with a room for each: who is named is in or out by turns. */
    private static int lit(long x, int n, int in, int there) {
        for (int k = 0; k < n; k++) {
            x = x * 1103515245L + 12345L & 0x7fffffffL;
            long i = x >> 16 & 7;
            if (i < there) in ^= 1 << i;
        }
        return Integer.bitCount(in);
    }

    private static void decadesGoOn() {
        Due.promise("\"TRAVELLER .. (not there: a NIGHT goes by), comes, if one is OUT, else goes\"");
        String text = "inn 0 2;wet 4 0 1 2 0 3;one 0 3;one 1 1;one 2 4;one 3 0;one 4 0;one 5 1;one 0 0;come 6;come 0;";
        for (int kind = 0; kind < 6; kind++) {
            for (int there = 1; there <= 7; there++) {
                for (int seed = 1; seed < 999999; seed += 76543) {
                    InnTurned x = Due.told(text);
                    if (there < 7) x.inn(kind, there / 2);
                    for (int i = 0; there < 7 && i < there; i++) x.one((i + kind) % 6, i % 4);
                    x.landlord(kind);
                    int due = x.decades(seed, 60);
                    Due.due("decades(" + seed + ", 60)", due, stepped(x, seed, 60));
                }
            }
        }
    }

    private static int stepped(InnTurned x, long seed, int n) {
        for (int k = 0; k < n; k++) {
            seed = (seed * 1103515245L + 12345L) % 2147483648L;
            int i = (int) (seed / 65536L % 8L);
            if (i >= x.count(0)) x.nights(1);
            else if (x.of(i, 3) == 0) x.comes(i);
            else x.goes(i);
        }
        return x.count(1);
    }

    private static void decadesBeyondTheLastNight() {
        Due.promise("\"NIGHTS go beyond 9999 in them\": DECADES");
        String text = "inn 2 7;wet 4 0 2 0 1 0;one 3 0;one 3 1;one 0 4;one 0 5;";
        int apart = 0;
        InnTurned x = Inns.late(text), y = Due.told(text + "nights 3;");
        for (int seed = 0; seed < 60; seed++) {
            for (int n = 1; n <= 4; n++) {
                int due = y.decades(seed * 7919, n * 15);
                Due.due("decades(" + seed * 7919 + ", " + n * 15 + ") from 9999", x.decades(seed * 7919, n * 15), due);
                apart += due;
            }
        }
        Due.holds("some are IN", apart > 0);
        Due.due("the night stays", x.count(2), 9999);
    }
}
