import java.util.ArrayList;
import java.util.List;
import java.util.Random;
import java.util.regex.Matcher;
import java.util.regex.Pattern;

/** Promises 3 and 4 once more: texts of all kinds against a table of what may follow what. */
public final class FaultTest {
    private static final Pattern TOKEN = Pattern.compile("[a-z]+|[0-9]+|[;-]");
    private static final String[] BITS = {"part", "just", "add", "sub", "span", "board", "scope", "each", "needs", "lazy",
        "breaks", "bad", ";", "-", "0", "1", "5", "9", "10", "11", "12", "999", "1000", "x", "A", "\t", "\u00ff", "\n", " "};
    private static final Check check = new Check();
    private static final Random random = new Random(7);

    public static void main(String[] args) {
        int runs = args.length > 0 ? Integer.parseInt(args[0]) : 6000;
        for (int run = 0; run < runs; run++) {
            compare(run % 3 == 0 ? anyText() : spoilt(wellFormed(), run % 3));
            compare(atTheBrim());
        }
        check.end();
    }

    private static String anyText() {
        StringBuilder text = new StringBuilder();
        int bits = random.nextInt(12);
        for (int i = 0; i < bits; i++) {
            text.append(BITS[random.nextInt(BITS.length)]).append(random.nextBoolean() ? " " : "");
        }
        return text.toString();
    }

    private static String wellFormed() {
        StringBuilder text = new StringBuilder();
        int parts = random.nextInt(15);
        for (int p = 0; p < parts; p++) {
            text.append("part ").append(BITS[1 + random.nextInt(3)]).append(random.nextBoolean() ? " -" : " ").append(random.nextInt(1000));
            int clauses = random.nextInt(4);
            for (int c = 0; c < clauses && text.length() < 540; c++) {
                text.append(' ').append(clause(parts));
            }
            text.append(random.nextBoolean() ? ";" : " ;\n");
        }
        return text.length() > 595 ? text.substring(0, 595) : text.toString();
    }

    /** Parts about as many as may be, the last of them with needs that can be or not. */
    private static String atTheBrim() {
        StringBuilder text = new StringBuilder();
        int parts = 11 + random.nextInt(5);
        for (int p = 0; p < parts; p++) {
            text.append("part just 1");
            int needs = p < 10 || random.nextInt(3) == 0 ? 0 : 1 + random.nextInt(5);
            for (int k = 0; k < needs; k++) {
                text.append(k == 0 || random.nextInt(4) == 0 ? (random.nextBoolean() ? " needs " : " lazy ") : " ");
                text.append(random.nextInt(random.nextInt(6) == 0 ? 20 : 12));
            }
            text.append(random.nextInt(12) == 0 ? " breaks 10;" : ";");
        }
        return text.toString();
    }

    private static String clause(int parts) {
        switch (random.nextInt(5)) {
            case 0:
                return "span " + BITS[5 + random.nextInt(3)];
            case 1:
                return "breaks " + random.nextInt(random.nextInt(8) == 0 ? 12 : 10);
            case 2:
                return "bad";
            default:
                StringBuilder row = new StringBuilder(random.nextBoolean() ? "needs" : "lazy");
                int needs = 1 + random.nextInt(2);
                for (int k = 0; k < needs; k++) {
                    row.append(' ').append(random.nextInt(random.nextInt(20) == 0 ? 14 : Math.max(1, Math.min(12, parts))));
                }
                return row.toString();
        }
    }

    private static String spoilt(String text, int much) {
        if (much < 2 || text.isEmpty()) {
            return text;
        }
        int at = random.nextInt(text.length());
        String bit = random.nextInt(3) == 0 ? "" : BITS[random.nextInt(BITS.length)];
        int to = Math.min(text.length(), at + random.nextInt(3));
        String spoilt = text.substring(0, at) + bit + text.substring(to);
        return spoilt.length() > 600 ? text : spoilt;
    }

    private static void compare(String text) {
        PlugBoard x = new PlugBoard();
        int[] due = faultOf(text);
        int parts = Check.read(x, text);
        check.due("fault of '" + text + "'", x.fault(false), due[0]);
        check.due("place in '" + text + "'", x.fault(true), due[1]);
        check.due("read '" + text + "'", parts, due[0] == 0 ? due[2] : PlugBoard.NONE);
    }

    /** States: what was there last decides what may come; "e" is the end. */
    private static String mayFollow(String state) {
        switch (state) {
            case "top":
                return "part|e";
            case "part":
                return "just|add|mul|max|min|sub";
            case "act":
                return "-|N";
            case "-":
            case "needs":
            case "lazy":
            case "breaks":
                return "N";
            case "span":
                return "board|scope|each";
            case "row":
                return "N|;|span|needs|lazy|breaks|bad";
            default:
                return ";|span|needs|lazy|breaks|bad";
        }
    }

    private static String after(String state, String token) {
        if (state.equals("part")) {
            return "act";
        }
        if (token.equals("N")) {
            return state.equals("needs") || state.equals("lazy") || state.equals("row") ? "row" : "clause";
        }
        if (token.equals(";")) {
            return "top";
        }
        return state.equals("span") || token.equals("bad") ? "clause" : token;
    }

    /** The fault, its place, the parts that are told. */
    private static int[] faultOf(String text) {
        List<int[]> later = new ArrayList<>();
        List<int[]> needs = new ArrayList<>();
        String state = "top";
        int parts = 0;
        int needsOfPart = 0;
        int at = 0;
        while (true) {
            while (at < text.length() && (text.charAt(at) == ' ' || text.charAt(at) == '\n')) {
                at++;
            }
            Matcher matcher = TOKEN.matcher(text).region(at, text.length());
            String token = at == text.length() ? "e" : matcher.lookingAt() ? matcher.group() : "?";
            boolean digits = Character.isDigit(token.charAt(0));
            String kind = !digits ? token : token.length() > 3 ? "?" : "N";
            if (!List.of(mayFollow(state).split("\\|")).contains(kind)) {
                return new int[] {1, at, 0};
            }
            if (kind.equals("e")) {
                break;
            }
            if (kind.equals("part") && ++parts == 13) {
                later.add(new int[] {4, at});
            }
            needsOfPart = kind.equals("part") ? 0 : needsOfPart;
            if (state.equals("breaks") && Integer.parseInt(token) > 9) {
                later.add(new int[] {2, at});
            }
            if (List.of("needs", "lazy", "row").contains(state) && kind.equals("N")) {
                if (Integer.parseInt(token) > 11) {
                    later.add(new int[] {2, at});
                }
                if (++needsOfPart == 5) {
                    later.add(new int[] {3, at});
                }
                needs.add(new int[] {Integer.parseInt(token), at});
            }
            state = after(state, kind);
            at += token.length();
        }
        for (int[] need : needs) {
            if (need[0] >= parts) {
                later.add(new int[] {5, need[1]});
            }
        }
        later.sort((a, b) -> a[1] != b[1] ? a[1] - b[1] : a[0] - b[0]);
        return later.isEmpty() ? new int[] {0, PlugBoard.NONE, parts} : new int[] {later.get(0)[0], later.get(0)[1], 0};
    }
}
