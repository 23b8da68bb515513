/** What the tests share: to say what is due, to tell what is not so, to type a text. */
final class Due {
    private static int asked = 0, wrong = 0;
    private static String promise = "";

    private Due() {
    }

    static void promise(String name) {
        promise = name;
    }

    static void due(String call, long got, long want) {
        asked++;
        if (got == want) return;
        wrong++;
        if (wrong <= 40) System.out.println(promise + ": " + call + " answered " + got + ", due is " + want);
    }

    static void holds(String what, boolean so) {
        due(what, so ? 1 : 0, 1);
    }

    static void type(InnTurned x, String text) {
        x.clear();
        for (int k = 0; k < text.length(); k++) due("type " + text, x.type(text.charAt(k)), k + 1);
    }

    static int read(InnTurned x, String text) {
        type(x, text);
        return x.read();
    }

    static InnTurned told(String text) {
        InnTurned x = new InnTurned();
        int items = read(x, text);
        if (items < 1) due("read of " + text, items, 1);
        return x;
    }

    /** Ends the test: with code 1, if an answer was not as due. */
    static void end() {
        System.out.println(asked + " answers looked at, " + wrong + " not as due");
        if (wrong != 0) System.exit(1);
    }
}
