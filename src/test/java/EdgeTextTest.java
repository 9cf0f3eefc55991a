/** The edges that Terms 1 and promises 1 to 4 name, sentence by sentence. */
public final class EdgeTextTest {
    private static final int NONE = PlugBoard.NONE;
    private static final String RICH = "part just 5 bad;part add 1 needs 1;part add 2 span scope lazy 0;";
    private static final Check check = new Check();

    public static void main(String[] args) {
        newObjectHasNoParts();
        newObjectHasNothingElse();
        typeStopsAtZero();
        typeHighestFirst();
        typeToTheBrim();
        typeBeyondTheBrim();
        typeAfterTheBrim();
        readNothing();
        readIsAsAtFirst();
        readFaultStays();
        readEmptiesTheText();
        faultAtFirst();
        faultOfTheLatest();
        partsAtMostTwelve();
        allOfTheTwelfth();
        numbersOfParts();
        numbersAreShort();
        needsAtMostFour();
        needsUpToEleven();
        needsThatAreNoParts();
        spans();
        breaksUpToNine();
        badIsBad();
        everyByte();
        tokensGoOn();
        otherWords();
        whatMayStand();
        theEnd();
        firstFaultGoesFirst();
        firstByPlace();
        leastOfOnePlace();
        fullText();
        check.end();
    }

    /** Where the sign @ stands the fault is due. */
    private static void faulty(int fault, String marked) {
        int place = marked.indexOf('@');
        String text = marked.substring(0, place) + marked.substring(place + 1);
        PlugBoard x = new PlugBoard();
        check.due("read '" + marked + "'", Check.read(x, text), NONE);
        check.due("fault of '" + marked + "'", x.fault(false), fault);
        check.due("place in '" + marked + "'", x.fault(true), place);
    }

    private static PlugBoard reads(int parts, String text) {
        PlugBoard x = new PlugBoard();
        check.due("read '" + text + "'", Check.read(x, text), parts);
        check.due("fault of '" + text + "'", x.fault(false), 0);
        check.due("place in '" + text + "'", x.fault(true), NONE);
        check.due("parts of '" + text + "'", x.count(0), parts);
        return x;
    }

    private static void rich(PlugBoard x) {
        Check.read(x, RICH);
        x.ask(0);
        x.leave();
        x.ask(0);
        x.value(0);
        x.ask(1);
        x.stand(0, 2);
        x.enter();
        x.ask(2);
        x.stand(2, 0);
    }

    private static void same(String what, Picture.Run one, Picture.Run other) {
        check.due(what, Picture.difference(Picture.of(one), Picture.of(other)), "");
    }

    private static void newObjectHasNoParts() {
        check.of("1: No PARTS.");
        PlugBoard x = new PlugBoard();
        check.due("parts", x.count(0), 0);
        check.missing("part 0", () -> x.part(0, 0));
        check.due("ask 0", x.ask(0), NONE);
        check.due("start", x.start(NONE), 0);
    }

    private static void newObjectHasNothingElse() {
        check.of("1: A new object is as after read() of nothing");
        same("new", x -> { }, PlugBoard::read);
        PlugBoard x = new PlugBoard();
        for (int what = 0; what <= 10; what++) {
            check.due("count " + what, x.count(what), 0);
        }
        check.due("undo", x.undo(), NONE);
        for (int k = 0; k < 3; k++) {
            check.due("again " + k, x.again(k), false);
        }
    }

    private static void typeStopsAtZero() {
        check.of("2: up to the first one that is 0");
        PlugBoard x = new PlugBoard();
        check.due("nothing", x.type(0L), 0);
        check.due("0 first, others behind it", x.type(0x007061727420206aL), 0);
        check.due("one", x.type(0x7000000000000000L), 1);
        check.due("one, others behind a 0", x.type(0x6100727272727272L), 2);
        check.due("seven", x.type(0x7274206a75737400L), 9);
        check.due("eight", x.type(0x2020202020313b0aL), 17);
        check.due("all that came is read", x.read(), 1);
        check.due("the highest bit alone is a byte", x.type(Long.MIN_VALUE), 1);
        check.due("ones", x.type(-1L), 9);
        check.due("the lowest byte alone is none", x.type(1L), 9);
        check.due("bytes", x.count(7), 9);
    }

    private static void typeHighestFirst() {
        check.of("2: the highest first; behind THE TEXT");
        PlugBoard x = new PlugBoard();
        x.type(0x7061727420737562L);
        x.type(0x2d31323b00000000L);
        check.due("read", x.read(), 1);
        check.due("act", x.part(0, 0), 5);
        check.due("number", x.part(0, 1), -12);
    }

    private static void typeToTheBrim() {
        check.of("2: how many THE TEXT has (600 is not more than 600)");
        PlugBoard x = new PlugBoard();
        for (int i = 1; i <= 75; i++) {
            check.due("by eights", x.type(0x2020202020202020L), 8 * i);
        }
        check.due("nothing comes to it", x.type(0L), 600);
        check.due("bytes", x.count(7), 600);
        check.due("one more", x.type(0x2000000000000000L), NONE);
        check.due("eight more", x.type(-1L), NONE);
        check.due("bytes stay", x.count(7), 600);
        for (int last = 1; last <= 8; last++) {
            PlugBoard y = new PlugBoard();
            Check.type(y, " ".repeat(600 - last));
            check.due("the last " + last, y.type(Check.eight("        ".substring(8 - last), 0)), 600);
        }
    }

    private static void typeBeyondTheBrim() {
        check.of("2: NONE, and nothing comes, if it would have more than 600");
        for (int room = 0; room < 8; room++) {
            PlugBoard x = new PlugBoard();
            String text = "part just 7;" + " ".repeat(588 - room);
            check.due("room", Check.type(x, text), 600 - room);
            check.due("one too many", x.type(Check.eight(";;;;;;;;", 7 - room)), NONE);
            check.due("bytes stay", x.count(7), 600 - room);
            check.due("none of it came", x.read(), 1);
        }
        same("as if it were not", x -> Check.type(x, "part" + " ".repeat(590)), x -> {
            Check.type(x, "part" + " ".repeat(590));
            x.type(Check.eight("abcdefg", 0));
        });
    }

    private static void typeAfterTheBrim() {
        check.of("2: a shorter one comes behind a refused one");
        PlugBoard x = new PlugBoard();
        Check.type(x, "part just " + " ".repeat(583));
        check.due("bytes", x.count(7), 593);
        check.due("eight are too many", x.type(Check.eight("12345678", 0)), NONE);
        check.due("seven are not", x.type(Check.eight("  12 ; ", 0)), 600);
        check.due("read", x.read(), 1);
        check.due("number", x.part(0, 1), 12);
        check.due("room again", x.type(Check.eight("12345678", 0)), 8);
    }

    private static void readNothing() {
        check.of("3: an empty text: any number of parts, so none, too");
        reads(0, "");
        reads(0, " ");
        reads(0, "\n \n");
        PlugBoard x = Check.boardOf(RICH);
        check.due("no parts then", x.read(), 0);
        check.due("parts", x.count(0), 0);
    }

    private static void readIsAsAtFirst() {
        check.of("3: all is as at first, but PARTS as told");
        same("with the same parts", x -> Check.read(x, RICH), x -> {
            rich(x);
            Check.read(x, RICH);
        });
        same("with none", x -> { }, x -> {
            rich(x);
            x.read();
        });
        same("the fault is gone, too", x -> Check.read(x, RICH), x -> {
            Check.read(x, "part just");
            Check.read(x, RICH);
        });
    }

    private static void readFaultStays() {
        check.of("3: NONE: a FAULT (all but THE TEXT, the FAULT stays)");
        String[] faults = {"part", RICH + "x", "part just 1 breaks 10;", "part just 1 needs 0 0 0 0 0;",
            "part just 1;".repeat(13), "part just 1 needs 1;"};
        for (int i = 0; i < faults.length; i++) {
            String text = faults[i];
            String before = Picture.withoutPaper(EdgeTextTest::rich);
            String after = Picture.withoutPaper(x -> {
                rich(x);
                Check.read(x, text);
            });
            check.due("after '" + text + "'", Picture.difference(before, after), "");
            PlugBoard x = new PlugBoard();
            rich(x);
            check.due("read '" + text + "'", Check.read(x, text), NONE);
            check.due("its fault", x.fault(false), i == 0 ? 1 : i);
        }
    }

    private static void readEmptiesTheText() {
        check.of("3: THE TEXT is read (it is empty then)");
        PlugBoard x = new PlugBoard();
        Check.read(x, "part just 1;");
        check.due("bytes after parts", x.count(7), 0);
        check.due("nothing left", x.read(), 0);
        Check.read(x, "part just");
        check.due("bytes after a fault", x.count(7), 0);
        check.due("nothing left", x.read(), 0);
        check.due("no part left", x.count(0), 0);
    }

    private static void faultAtFirst() {
        check.of("4: 0 without, and at first; place: NONE without");
        PlugBoard x = new PlugBoard();
        check.due("at first", x.fault(false), 0);
        check.due("its place", x.fault(true), NONE);
        x.type(-1L);
        check.due("typed, not read", x.fault(false), 0);
        check.due("its place", x.fault(true), NONE);
        x.read();
        check.due("at place 0", x.fault(true), 0);
    }

    private static void faultOfTheLatest() {
        check.of("4: Of the latest read()");
        PlugBoard x = new PlugBoard();
        Check.read(x, "part just 1 breaks 10;");
        check.due("fault", x.fault(false), 2);
        check.due("place", x.fault(true), 19);
        Check.type(x, "part");
        check.due("typing leaves it", x.fault(false), 2);
        x.enter();
        x.leave();
        x.undo();
        check.due("acts leave it", x.fault(true), 19);
        x.read();
        check.due("another fault", x.fault(false), 1);
        check.due("another place", x.fault(true), 4);
        x.read();
        check.due("none", x.fault(false), 0);
        check.due("no place", x.fault(true), NONE);
    }

    private static void partsAtMostTwelve() {
        check.of("Terms 1: PARTS, at most 12; FAULT 4 the word part of a 13th");
        for (int many = 0; many <= 12; many++) {
            PlugBoard x = reads(many, "part just 1;".repeat(many));
            check.missing("one more than the last", () -> x.part(x.count(0), 0));
            if (many > 0) {
                check.due("the last", x.part(many - 1, 1), 1);
            }
        }
        String twelve = "part just 1;".repeat(12);
        reads(12, twelve + " \n ");
        faulty(4, twelve + "@part just 1;");
        faulty(4, twelve + " \n @part just 1;");
        faulty(4, twelve + "@part just 1;part just 1;");
        faulty(4, twelve + "@part just 1;" + "part just 1;".repeat(30));
        faulty(1, twelve + "part@");
        faulty(1, twelve + "part just 1;part just 1@");
    }

    private static void allOfTheTwelfth() {
        check.of("Terms 1: PARTS, numbered from 0 on (all that is told of the 12th)");
        PlugBoard x = reads(12, "part just 1;".repeat(11) + "part sub -998 span each breaks 9 bad needs 0 11 lazy 10 11;");
        int[] due = {5, -998, 4, 2, 9, 1, 0, 12, 0};
        for (int what = 0; what <= 8; what++) {
            check.due("the 12th, what " + what, x.part(11, what), due[what]);
            check.due("the 11th, what " + what, x.part(10, what), what == 1 ? 1 : 0);
        }
        PlugBoard y = reads(12, "part sub -998 span each breaks 9 bad needs 0 11 lazy 10 11;" + "part just 1;".repeat(11));
        for (int what = 0; what <= 8; what++) {
            check.due("the first, what " + what, y.part(0, what), due[what]);
        }
    }

    private static void numbersOfParts() {
        check.of("Terms 1: a NUMBER, -999 to 999");
        int[] numbers = {0, 1, 9, 10, 99, 100, 998, 999};
        for (int number : numbers) {
            check.due("number", reads(1, "part just " + number + ";").part(0, 1), number);
            check.due("less than 0", reads(1, "part just -" + number + ";").part(0, 1), -number);
            check.due("apart from its sign", reads(1, "part just - \n" + number + ";").part(0, 1), -number);
        }
        check.due("with 0 ahead", reads(1, "part just 007;").part(0, 1), 7);
        check.due("000", reads(1, "part just -000;").part(0, 1), 0);
        faulty(1, "part just @1000;");
        faulty(1, "part just -@1000;");
        faulty(1, "part just -@-1;");
        faulty(1, "part just -@;");
        faulty(1, "part just 1@-;");
    }

    private static void numbersAreShort() {
        check.of("Terms 1: NUMBERS, 1 to 3 digits (a longer row of digits is none)");
        String[] rows = {"0000", "0001", "1234", "00000", "4294967297", "9".repeat(80)};
        for (String row : rows) {
            faulty(1, "part just @" + row + ";");
            faulty(1, "part just 1 needs @" + row + ";");
            faulty(1, "part just 1 needs 0 @" + row + ";");
            faulty(1, "part just 1 lazy @" + row + ";");
            faulty(1, "part just 1 breaks @" + row + ";");
        }
        check.due("three for a need", reads(1, "part just 1 needs 000;").need(0, 0), 0);
        check.due("three for breaks", reads(1, "part just 1 breaks 009;").part(0, 4), 9);
    }

    private static void needsAtMostFour() {
        check.of("Terms 1: NEEDS, at most 4; FAULT 3 a 5th NEED of a PART (at it)");
        for (int many = 1; many <= 4; many++) {
            check.due("needs", reads(1, "part add 1 needs" + " 0".repeat(many) + ";").part(0, 2), many);
            check.due("lazy", reads(1, "part add 1 lazy" + " 0".repeat(many) + ";").part(0, 7), (1 << many) - 1);
        }
        check.due("none", reads(1, "part add 1;").part(0, 2), 0);
        check.due("four of each kind's", reads(1, "part add 1 needs 0 lazy 0 needs 0 lazy 0;").part(0, 7), 10);
        faulty(3, "part add 1 needs 0 0 0 0 @0;");
        faulty(3, "part add 1 lazy 0 0 0 0 @0;");
        faulty(3, "part add 1 needs 0 0 0 0 lazy @0;");
        faulty(3, "part add 1 needs 0 lazy 0 needs 0 lazy 0 bad needs @0 0 0;");
        faulty(3, "part add 1 lazy 0 0 0 span each needs 0 @0;");
        check.due("each part has four of its own",
                reads(3, "part add 1 needs 0 0 0 0;part add 1 lazy 0 1 1 2;part add 1 needs 0 1 lazy 2 2;").part(2, 2), 4);
        faulty(3, "part add 1 needs 0 0 0 0;part add 1 lazy 0 0 0 0 @0;");
    }

    private static void needsUpToEleven() {
        check.of("Terms 1: FAULT 2 a NUMBER that can not be (a NEED above 11)");
        PlugBoard x = reads(12, "part add 1 needs 11 lazy 011;" + "part just 1;".repeat(11));
        check.due("11", x.need(0, 0), 11);
        check.due("011", x.need(0, 1), 11);
        for (String kind : new String[] {"needs", "lazy"}) {
            faulty(2, "part add 1 " + kind + " @12;" + "part just 1;".repeat(11));
            faulty(2, "part add 1 " + kind + " 11 @12;" + "part just 1;".repeat(11));
            faulty(2, "part add 1 " + kind + " @999;");
            faulty(2, "part add 1 " + kind + " 0 0 0 @012;");
        }
    }

    private static void needsThatAreNoParts() {
        check.of("Terms 1: FAULT 5 a NEED that is no PART of all that are told (at it)");
        for (int many = 1; many <= 12; many++) {
            String others = "part just 1;".repeat(many - 1);
            check.due("the last is one", reads(many, "part add 1 needs " + (many - 1) + ";" + others).need(0, 0), many - 1);
            if (many < 12) {
                faulty(5, "part add 1 needs @" + many + ";" + others);
                faulty(5, "part add 1 lazy 0 @" + many + ";" + others);
                faulty(5, others + "part add 1 needs 0 lazy @11 " + many + ";");
            }
        }
        check.due("itself is one", reads(1, "part add 1 needs 0 0;").part(0, 2), 2);
        faulty(5, "part add 1 needs 0 1 @2;part add 1 needs 2 3;");
    }

    private static void spans() {
        check.of("Terms 1: span board or span scope or span each (BOARD without; the last one strikes)");
        String[] names = {"board", "scope", "each"};
        check.due("without", reads(1, "part just 1;").part(0, 3), 0);
        for (int first = 0; first < 3; first++) {
            check.due(names[first], reads(1, "part just 1 span " + names[first] + ";").part(0, 3), first);
            for (int last = 0; last < 3; last++) {
                String text = "part just 1 span " + names[first] + " bad span " + names[last] + ";";
                check.due(text, reads(1, text).part(0, 3), last);
            }
        }
        check.due("the next part has its own", reads(2, "part just 1 span each;part just 1;").part(1, 3), 0);
        faulty(1, "part just 1 span @boards;");
        faulty(1, "part just 1 span @0;");
        faulty(1, "part just 1 span each @scope;");
    }

    private static void breaksUpToNine() {
        check.of("Terms 1: BREAKS, 0 to 9; FAULT 2: BREAKS above 9; the last one strikes");
        check.due("without", reads(1, "part just 1;").part(0, 4), 0);
        for (int first = 0; first <= 9; first++) {
            check.due("breaks", reads(1, "part just 1 breaks " + first + ";").part(0, 4), first);
            check.due("the last", reads(1, "part just 1 breaks " + first + " breaks " + (9 - first) + ";").part(0, 4), 9 - first);
        }
        faulty(2, "part just 1 breaks @10;");
        faulty(2, "part just 1 breaks @010;");
        faulty(2, "part just 1 breaks @999;");
        faulty(2, "part just 1 breaks @10 breaks 1;");
        faulty(2, "part just 1 breaks 1 breaks @10;");
        faulty(1, "part just 1 breaks @-1;");
        faulty(1, "part just 1 breaks 1 @1;");
        faulty(1, "part just 1 breaks@;");
    }

    private static void badIsBad() {
        check.of("Terms 1: bad (it ENDS BADLY)");
        check.due("without", reads(1, "part just 1;").part(0, 5), 0);
        check.due("with", reads(1, "part just 1 bad;").part(0, 5), 1);
        check.due("twice", reads(1, "part just 1 bad bad;").part(0, 5), 1);
        check.due("of another", reads(2, "part just 1 bad;part just 1;").part(1, 5), 0);
    }

    private static void everyByte() {
        check.of("Terms 1: blanks (32, 10); letters a to z; the signs ; -; FAULT 1: a byte that begins none");
        for (int b = 1; b <= 255; b++) {
            String sign = String.valueOf((char) b);
            boolean blank = b == 32 || b == 10;
            boolean letter = b >= 'a' && b <= 'z';
            boolean digit = b >= '0' && b <= '9';
            if (blank) {
                reads(0, sign);
                reads(1, sign + "part" + sign + "just" + sign + "1" + sign + ";" + sign);
                faulty(1, "part just 1" + sign + "@2;");
            } else {
                faulty(1, "@" + sign);
                faulty(1, letter ? "@part" + sign + "just 1;" : "part@" + sign + "just 1;");
            }
            if (digit) {
                check.due("a digit", reads(1, "part just 1" + sign + "2;").part(0, 1), 102 + 10 * (b - '0'));
            } else if (!blank) {
                faulty(1, b == ';' ? "part just 1;@2;" : "part just 1@" + sign + "2;");
            }
        }
    }

    private static void tokensGoOn() {
        check.of("Terms 1: TOKENS, each as long as it goes, with blanks between where one likes");
        reads(1, "part just1span each needs0lazy0breaks1bad;");
        reads(1, "part just-1bad;");
        reads(1, " part  just \n\n 1 ; ");
        reads(2, "part just 1;part just 1;");
        faulty(1, "@partjust 1;");
        faulty(1, "@par t just 1;");
        faulty(1, "part @jus t 1;");
        faulty(1, "part just 1 @spaneach;");
        faulty(1, "part just 1 @badbad;");
        faulty(1, "part just 1 @spa;");
        faulty(1, "part just 1 needs 0 @0000lazy;");
        check.due("12 is no 1 and 2", reads(1, "part just 12;").part(0, 1), 12);
        check.due("two needs", reads(1, "part just 1 needs 0 0;").part(0, 2), 2);
        check.due("00 is one need", reads(1, "part just 1 needs 00;").part(0, 2), 1);
    }

    /** A word that may stand there, then each of its letters changed, left out, told twice, made great. */
    private static void otherWord(String ahead, String word, String behind) {
        reads(1, ahead + word + behind);
        for (int i = 0; i < word.length(); i++) {
            String left = ahead + "@" + word.substring(0, i);
            String right = word.substring(i + 1) + behind;
            faulty(1, left + "q" + right);
            faulty(1, left + right);
            faulty(1, left + word.charAt(i) + word.charAt(i) + right);
            faulty(1, left + Character.toUpperCase(word.charAt(i)) + right);
        }
        faulty(1, ahead + "@" + word + "z" + behind);
        faulty(1, ahead + "@z" + word + behind);
    }

    private static void otherWords() {
        check.of("Terms 1: FAULT 1 (another word, too)");
        otherWord("", "part", " just 1;");
        for (String act : new String[] {"just", "add", "mul", "max", "min", "sub"}) {
            otherWord("part ", act, " 1;");
        }
        for (String span : new String[] {"board", "scope", "each"}) {
            otherWord("part just 1 span ", span, ";");
        }
        otherWord("part just 1 ", "span", " each;");
        otherWord("part just 1 ", "needs", " 0;");
        otherWord("part just 1 ", "lazy", " 0;");
        otherWord("part just 1 ", "breaks", " 1;");
        otherWord("part just 1 ", "bad", ";");
    }

    private static final String[] TOKENS = {"part", "just", "add", "mul", "max", "min", "sub", "span", "board", "scope",
        "each", "needs", "lazy", "breaks", "bad", "x", "1", ";", "-"};

    private static void mayStand(String ahead, String these) {
        for (String token : TOKENS) {
            PlugBoard x = Check.boardOf(ahead + " " + token);
            boolean refused = x.fault(false) == 1 && x.fault(true) == ahead.length() + 1;
            check.due("'" + token + "' behind '" + ahead + "'", refused, !(" " + these + " ").contains(" " + token + " "));
        }
    }

    private static void whatMayStand() {
        check.of("Terms 1: FAULT 1 the first token that can not stand there (another word, too)");
        String clauses = "span needs lazy breaks bad ;";
        mayStand("", "part");
        mayStand("part", "just add mul max min sub");
        mayStand("part just", "1 -");
        mayStand("part just -", "1");
        mayStand("part just 1", clauses);
        mayStand("part just 1 span", "board scope each");
        mayStand("part just 1 span each", clauses);
        mayStand("part just 1 needs", "1");
        mayStand("part just 1 needs 0", clauses + " 1");
        mayStand("part just 1 needs 0 0", clauses + " 1");
        mayStand("part just 1 lazy", "1");
        mayStand("part just 1 lazy 0", clauses + " 1");
        mayStand("part just 1 breaks", "1");
        mayStand("part just 1 breaks 1", clauses);
        mayStand("part just 1 bad", clauses);
        mayStand("part just 1;", "part");
    }

    private static void theEnd() {
        check.of("Terms 1: or the end, if more must come (the end's place: how many bytes there are)");
        String[] unfinished = {"part", "part just", "part just -", "part just 1", "part just 1 span", "part just 1 span each",
            "part just 1 needs", "part just 1 needs 0", "part just 1 lazy", "part just 1 lazy 0", "part just 1 breaks",
            "part just 1 breaks 1", "part just 1 bad", "part just 1;part"};
        for (String text : unfinished) {
            faulty(1, text + "@");
            faulty(1, text + " \n @");
            faulty(1, text + " ".repeat(600 - text.length()) + "@");
        }
        faulty(1, "part just 1; @par");
        reads(1, "part just 1;");
    }

    private static void firstFaultGoesFirst() {
        check.of("Terms 1: If there is none [FAULT 1], the first by place");
        faulty(1, "part just 1 breaks 10 needs 12;@x");
        faulty(1, "part just 1 needs 0 0 0 0 0;part@");
        faulty(1, "part just 1;".repeat(13) + "part just@;");
        faulty(1, "part just 1 needs 5;part just @1000;");
        faulty(1, "part just 1 @x needs 12;");
        faulty(1, "@x y z");
    }

    private static void firstByPlace() {
        check.of("Terms 1: the first by place");
        faulty(2, "part just 1 needs @12 breaks 10;");
        faulty(2, "part just 1 breaks @10 needs 12;");
        faulty(2, "part just 1 breaks @10 needs 0 0 0 0 0;");
        faulty(3, "part just 1 needs 0 0 0 0 @0 breaks 10;");
        faulty(2, "part just 1 breaks @10;" + "part just 1;".repeat(12));
        faulty(4, "part just 1;".repeat(12) + "@part just 1 breaks 10;");
        faulty(4, "part just 1;".repeat(12) + "@part just 1 needs 12;");
        faulty(2, "part just 1 breaks @10 needs 1;");
        faulty(5, "part just 1 needs @1 breaks 10;");
        faulty(5, "part just 1 needs @2;part just 1 needs 12;");
        faulty(3, "part just 1 needs 0 0 0 0 @0;" + "part just 1;".repeat(12));
        faulty(4, "part just 1;".repeat(12) + "@part just 1 needs 0 0 0 0 0;");
        faulty(3, "part just 1 needs 0 0 0 0 @0;part just 1 needs 5;");
        faulty(5, "part just 1 needs 0 0 0 @5 0;");
        faulty(5, "part just 1 needs @9 8 7;");
        faulty(5, "part just 1 needs @7 8 9;");
        faulty(2, "part just 1 needs @12 13 14;");
    }

    private static void leastOfOnePlace() {
        check.of("Terms 1: of one place the least");
        faulty(2, "part just 1 needs 0 0 0 0 @12;" + "part just 1;".repeat(11));
        faulty(2, "part just 1 needs @12;");
        faulty(2, "part just 1 needs 0 0 0 0 @12;");
        faulty(3, "part just 1 needs 0 0 0 0 @1;");
        faulty(3, "part just 1 needs 0 0 0 0 lazy @11;");
    }

    private static void fullText() {
        check.of("Terms 1: THE TEXT has at most 600 bytes");
        String part = "part sub -999 needs 11 11 lazy 11 10 breaks 9 ";
        String eleven = (part + ";").repeat(11);
        String text = eleven + part + " ".repeat(600 - 1 - eleven.length() - part.length()) + ";";
        check.due("bytes", text.length(), 600);
        PlugBoard x = reads(12, text);
        check.due("the last need of the last part", x.need(11, 3), 10);
        check.due("its number", x.part(11, 1), -999);
        faulty(1, text.substring(0, 599) + " @");
        faulty(1, text.substring(0, 599) + "@x");
        reads(0, " ".repeat(600));
        faulty(1, "@" + "a".repeat(600));
        faulty(1, "@" + "1".repeat(600));
        faulty(1, " ".repeat(599) + "@;");
    }
}
