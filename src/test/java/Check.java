import java.util.NoSuchElementException;

/** Compares answers with those that are due, and tells those that are not. */
final class Check {
    /** A call whose exception is looked at. */
    interface Call {
        int answer();
    }

    private int wrong = 0;
    private String sentence = "";

    /** The sentence of the document that the checks behind this look at. */
    void of(String told) {
        sentence = "[" + told + "] ";
    }

    void due(String what, long got, long want) {
        if (got != want) {
            tell(what, String.valueOf(got), String.valueOf(want));
        }
    }

    void due(String what, boolean got, boolean want) {
        if (got != want) {
            tell(what, String.valueOf(got), String.valueOf(want));
        }
    }

    void due(String what, String got, String want) {
        if (!got.equals(want)) {
            tell(what, got, want);
        }
    }

    void missing(String what, Call call) {
        try {
            tell(what, String.valueOf(call.answer()), "NoSuchElementException");
        } catch (NoSuchElementException expected) {
            return;
        }
    }

    private void tell(String what, String got, String want) {
        wrong++;
        System.out.println(sentence + what + " answered " + got + ", due is " + want);
    }

    void end() {
        if (wrong != 0) {
            System.out.println(wrong + " answers are not as due");
            System.exit(1);
        }
    }

    static int type(PlugBoard x, String text) {
        int length = x.count(7);
        for (int from = 0; from < text.length(); from += 8) {
            length = x.type(eight(text, from));
        }
        return length;
    }

    static long eight(String text, int from) {
        long eight = 0;
        for (int i = 0; i < 8; i++) {
            int one = from + i < text.length() ? text.charAt(from + i) & 255 : 0;
            eight = eight << 8 | one;
        }
        return eight;
    }

    static int read(PlugBoard x, String text) {
        type(x, text);
        return x.read();
    }

    static PlugBoard boardOf(String text) {
        PlugBoard x = new PlugBoard();
        read(x, text);
        return x;
    }

    static String why(PlugBoard x) {
        StringBuilder row = new StringBuilder().append(x.count(10)).append(':');
        for (int k = 0; k < x.count(9); k++) {
            row.append(' ').append(x.why(k));
        }
        return row.toString();
    }

    static String ended(PlugBoard x, boolean bad) {
        StringBuilder row = new StringBuilder();
        for (int k = 0; x.ended(k, bad) != PlugBoard.NONE; k++) {
            row.append(' ').append(x.ended(k, bad));
        }
        return row.toString().trim();
    }

    static String start(PlugBoard x) {
        StringBuilder row = new StringBuilder();
        for (int k = 0; k < x.start(PlugBoard.NONE); k++) {
            row.append(' ').append(x.start(k));
        }
        return row.toString().trim();
    }

    static String loop(PlugBoard x) {
        StringBuilder row = new StringBuilder();
        for (int k = 0; k < x.loop(PlugBoard.NONE); k++) {
            row.append(' ').append(x.loop(k));
        }
        return row.toString().trim();
    }

    static String looser(PlugBoard x) {
        StringBuilder row = new StringBuilder();
        row.append(x.looser(PlugBoard.NONE)).append(':');
        for (int k = 0; k < x.looser(PlugBoard.NONE); k++) {
            row.append(' ').append(x.looser(k));
        }
        return row.toString();
    }

    static String things(PlugBoard x) {
        StringBuilder row = new StringBuilder();
        for (int t = 0; t < x.count(2); t++) {
            row.append(' ').append(x.thing(t, 0)).append('@').append(x.thing(t, 1));
        }
        return row.toString().trim();
    }
}
