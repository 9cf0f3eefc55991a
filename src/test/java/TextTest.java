/** Promises 1 to 4, 12, 13: a new object, type, read, fault, part, need. */
public final class TextTest {
    private static final int NONE = PlugBoard.NONE;
    private static final Check check = new Check();

    public static void main(String[] args) {
        newObject();
        typing();
        typingToTheBrim();
        reading();
        clauses();
        needRows();
        firstFaults();
        numberFaults();
        countFaults();
        needsOfThirteenth();
        faultOrder();
        readingAfterFault();
        readingResets();
        nothingBehindTheEnd();
        check.end();
    }

    private static void newObject() {
        PlugBoard x = new PlugBoard();
        int[] due = {0, 0, 0, 0, 0, 0, 0, 0, 0, 0, 0, NONE};
        for (int what = 0; what < due.length; what++) {
            check.due("new count(" + what + ")", x.count(what), due[what]);
        }
        check.due("new count(-1)", x.count(-1), NONE);
        check.due("new fault", x.fault(false), 0);
        check.due("new fault place", x.fault(true), NONE);
        check.due("new ask", x.ask(0), NONE);
        check.due("new value", x.value(0), NONE);
        check.due("new undo", x.undo(), NONE);
        check.due("new stand", x.stand(0, 0), false);
        check.due("new stands", x.stands(0, 0), NONE);
        check.due("new need", x.need(0, 0), NONE);
        check.due("new has", x.has(0, 0), NONE);
        check.due("new why", x.why(0), NONE);
        check.due("new ended", x.ended(0, false), NONE);
        check.due("new ended bad", x.ended(0, true), NONE);
        check.due("new start", x.start(NONE), 0);
        check.due("new start(0)", x.start(0), NONE);
        check.due("new loop", x.loop(NONE), 0);
        check.due("new loop(0)", x.loop(0), NONE);
        check.due("new needs", x.needs(0, true), NONE);
        check.due("new would", x.would(0, 0), NONE);
        check.due("new worth", x.worth(0), 0);
        check.due("new deep", x.deep(), 0);
        check.due("new wave", x.wave(0), NONE);
        check.due("new lost", x.lost(0), NONE);
        check.due("new looser", x.looser(NONE), 0);
        check.due("new looser(0)", x.looser(0), NONE);
        check.due("new again", x.again(0), false);
        check.missing("new part", () -> x.part(0, 0));
        check.missing("new thing", () -> x.thing(0, 0));
        check.due("new leave", x.leave(), 0);
    }

    private static void typing() {
        PlugBoard x = new PlugBoard();
        check.due("type nothing", x.type(0L), 0);
        check.due("type behind a 0", x.type(0x0061626364656667L), 0);
        check.due("type up to a 0", x.type(0x7061007274206a75L), 2);
        check.due("type eight", x.type(0x7274206a75737420L), 10);
        check.due("type high bytes", x.type(-1L), 18);
        check.due("count of bytes", x.count(7), 18);
        check.due("high bytes are refused", x.read(), NONE);
        check.due("high byte's fault", x.fault(false), 1);
        check.due("high byte's place", x.fault(true), 10);
    }

    private static void typingToTheBrim() {
        PlugBoard x = new PlugBoard();
        for (int i = 1; i <= 74; i++) {
            check.due("type blanks " + i, x.type(0x2020202020202020L), 8 * i);
        }
        check.due("type 5", x.type(0x2020202020000000L), 597);
        check.due("type 4 too far", x.type(0x2020202000000000L), NONE);
        check.due("type none left out", x.count(7), 597);
        check.due("type 3", x.type(0x2020200000000000L), 600);
        check.due("type 0 at the brim", x.type(0L), 600);
        check.due("type 1 too far", x.type(0x2000000000000000L), NONE);
        check.due("read blanks", x.read(), 0);
        check.due("text is empty then", x.count(7), 0);
    }

    private static void reading() {
        PlugBoard x = new PlugBoard();
        check.due("read empty", x.read(), 0);
        check.due("read", Check.read(x, "part just 5;part add -1 needs 0;\npart mul-2;part max007;part min 999;part sub - 999;"), 6);
        int[] numbers = {5, -1, -2, 7, 999, -999};
        for (int p = 0; p < 6; p++) {
            check.due("act", x.part(p, 0), p);
            check.due("number", x.part(p, 1), numbers[p]);
        }
        check.due("fault", x.fault(false), 0);
        check.due("place", x.fault(true), NONE);
        check.due("parts", x.count(0), 6);
        check.missing("part above", () -> x.part(6, 0));
        check.missing("part below", () -> x.part(-1, 0));
        check.missing("what above", () -> x.part(0, 9));
        check.missing("what below", () -> x.part(0, -1));
    }

    private static void clauses() {
        PlugBoard x = Check.boardOf("part add 1;"
                + "part add 1 span each span scope bad breaks 3 breaks 9 lazy 0 1 needs 2 lazy 2;"
                + "part add 1bad bad span scope span board breaks 4 breaks 0;"
                + "part add 1span each needs0;");
        check.due("parts", x.count(0), 4);
        int[][] due = {{1, 1, 0, 0, 0, 0, 0, 0, 0}, {1, 1, 4, 1, 9, 1, 0, 11, 0}, {1, 1, 0, 0, 0, 1, 0, 0, 0}, {1, 1, 1, 2, 0, 0, 0, 0, 0}};
        for (int p = 0; p < due.length; p++) {
            for (int what = 0; what < 9; what++) {
                check.due("part(" + p + "," + what + ")", x.part(p, what), due[p][what]);
            }
        }
    }

    private static void needRows() {
        PlugBoard x = Check.boardOf("part add 1 needs 1 lazy 0 2 needs 1;part just 0;part just 0;");
        int[] due = {1, 0, 2, 1};
        for (int k = 0; k < 4; k++) {
            check.due("need", x.need(0, k), due[k]);
        }
        check.due("lazy bits", x.part(0, 7), 6);
        check.due("need(0,4)", x.need(0, 4), NONE);
        check.due("need(0,-1)", x.need(0, -1), NONE);
        check.due("need(1,0)", x.need(1, 0), NONE);
        check.due("need(3,0)", x.need(3, 0), NONE);
        check.due("need(-1,0)", x.need(-1, 0), NONE);
    }

    private static void refused(String text, int fault, int place) {
        PlugBoard x = new PlugBoard();
        check.due("read '" + text + "'", Check.read(x, text), NONE);
        check.due("fault of '" + text + "'", x.fault(false), fault);
        check.due("place in '" + text + "'", x.fault(true), place);
        check.due("text is empty", x.count(7), 0);
        check.due("no parts", x.count(0), 0);
    }

    private static void firstFaults() {
        refused("p", 1, 0);
        refused(" \npar", 1, 2);
        refused("part", 1, 4);
        refused("part ", 1, 5);
        refused("part foo 1;", 1, 5);
        refused("partjust 1;", 1, 0);
        refused("part Just 1;", 1, 5);
        refused("part jusT 1;", 1, 5);
        refused("part 1;", 1, 5);
        refused("part just", 1, 9);
        refused("part just;", 1, 9);
        refused("part just 1000;", 1, 10);
        refused("part just 0001;", 1, 10);
        refused("part just --1;", 1, 11);
        refused("part just 1", 1, 11);
        refused("part just 1 \n", 1, 13);
        refused("part just 1 2;", 1, 12);
        refused("part just 1 part just 1;", 1, 12);
        refused("part just 1;;", 1, 12);
        refused("part just 1; part just 1; x", 1, 26);
        refused("part just 1 span;", 1, 16);
        refused("part just 1 span all;", 1, 17);
        refused("part just 1 span board scope;", 1, 23);
        refused("part just 1 needs;", 1, 17);
        refused("part just 1 needs -1;", 1, 18);
        refused("part just 1 needs 0 0000;", 1, 20);
        refused("part just 1 lazy", 1, 16);
        refused("part just 1 lazy bad;", 1, 17);
        refused("part just 1 breaks bad;", 1, 19);
        refused("part just 1 breaks 1 1;", 1, 21);
        refused("part just 1 bad 1;", 1, 16);
        refused("part just 1 each;", 1, 12);
        refused("part\tjust 1;", 1, 4);
        refused("part\rjust 1;", 1, 4);
        refused("part just 1,", 1, 11);
        refused("part just \u00e9;", 1, 10);
        refused("part just`", 1, 9);
        refused("part just{", 1, 9);
        refused("part just 1/", 1, 11);
        refused("part just 1:", 1, 11);
        refused("-", 1, 0);
        refused("7", 1, 0);
    }

    private static void numberFaults() {
        refused("part add 1 needs 12;", 2, 17);
        refused("part add 1 lazy 0 12;", 2, 18);
        refused("part add 1 breaks 10;", 2, 18);
        refused("part add 1 breaks 999 breaks 1;", 2, 18);
        refused("part add 1 needs 0 0 0 0 12;", 2, 25);
        refused("part add 1 needs 0 0 0 0 0;", 3, 25);
        refused("part add 1 needs 0 0 lazy 0 0 needs 0 0;", 3, 36);
        refused("part add 1 needs 1;", 5, 17);
        refused("part add 1 lazy 11;", 5, 16);
        refused("part add 1 needs 0 0 0 0 1;", 3, 25);
    }

    private static void countFaults() {
        String ten = "part just 1;".repeat(10);
        PlugBoard x = new PlugBoard();
        check.due("twelve parts", Check.read(x, ten + "part add 1 needs 11;part just 1;"), 12);
        refused(ten + "part just 1;part just 1;part just 1;part just 1;", 4, 144);
        refused(ten + "part just 1;part just 1; part just 1 needs 12;", 4, 145);
        refused(ten + "part add 1 needs 11;part just 1;part just 1;", 4, 152);
        refused(ten + "part add 1 needs 12;part just 1;part just 1;", 2, 137);
        refused(ten + "part add 1 needs 11;", 5, 137);
        refused(ten + "part just 1;part just 1;part just 1 needs 0 0 0 0 0", 1, 171);
    }

    private static void needsOfThirteenth() {
        String eleven = "part just 1;".repeat(11);
        refused(eleven + "part just 1 needs 0;part just 1 needs 13;", 4, 152);
        refused(eleven + "part just 1 needs 0;part just 1 lazy 999;", 4, 152);
        refused(eleven + "part just 1 lazy 0 1;part just 1 needs 0 13 0;", 4, 153);
        refused(eleven + "part just 1 needs 0 1 2;part just 1 needs 13 13 13 13 13;", 4, 156);
        refused(eleven + "part just 1 needs 0 1 2 3;part just 1 breaks 10 needs 14;", 4, 158);
        refused(eleven + "part just 1 needs 0;part just 1 needs 0;part just 1 needs 20;part just 1 needs 20;", 4, 152);
        refused(eleven + "part just 1;part just 1 needs 13 13 13 13;part just 1 needs 14;", 4, 144);
        refused(eleven + "part just 1 needs 12;part just 1 needs 0;", 2, 150);
        refused(eleven + "part just 1 needs 0 13;part just 1 needs 0 0;", 2, 152);
        refused(eleven + "part just 1 needs 0 0 0 0 0;part just 1 needs 13;", 3, 158);
        refused(eleven + "part just 1 needs 0;part just 1 needs 13", 1, 172);
    }

    private static void faultOrder() {
        refused("part add 1 needs 12;part foo", 1, 25);
        refused("part add 1 needs 5 breaks 10;", 5, 17);
        refused("part add 1 breaks 10 needs 5;", 2, 18);
        refused("part add 1 needs 0 0 0 0 0;part add 1 needs 12;", 3, 25);
        refused("part add 1 needs 0 0 0 5 0 0;", 5, 23);
        refused("part add 1 needs 2;part add 1 needs 12;", 5, 17);
    }

    private static void readingAfterFault() {
        PlugBoard x = Check.boardOf("part just 5 breaks 2;part add 1 needs 1;");
        x.ask(0);
        x.ask(1);
        x.enter();
        check.due("read a fault", Check.read(x, "part"), NONE);
        check.due("fault", x.fault(false), 1);
        check.due("parts stay", x.count(0), 2);
        check.due("depth stays", x.count(1), 1);
        check.due("things stay", x.count(2), 1);
        check.due("why stays", Check.why(x), "-2: 1 1");
        check.due("undo stays", x.count(6), 3);
        check.due("text goes", x.count(7), 0);
        check.due("undo leaves the fault alone", x.undo(), 2);
        check.due("fault after undo", x.fault(false), 1);
        check.due("place after undo", x.fault(true), 4);
        Check.type(x, "part");
        check.due("undo leaves the text alone", x.undo(), 1);
        check.due("text after undo", x.count(7), 4);
        check.due("read goes on with the text", Check.read(x, " just 1;"), 1);
        check.due("fault is gone", x.fault(false), 0);
        check.due("place is gone", x.fault(true), NONE);
    }

    private static void readingResets() {
        PlugBoard x = Check.boardOf("part just 5 bad;part add 1 needs 1;part just 1 span scope;");
        x.ask(0);
        x.value(0);
        x.ask(1);
        x.stand(0, 1);
        x.leave();
        x.enter();
        x.ask(2);
        x.stand(0, 1);
        check.due("things before", x.count(2), 1);
        check.due("read anew", Check.read(x, "part just 2;part just 3;"), 2);
        int[] due = {2, 0, 0, 0, 0, 0, 0, 0, 0, 0, 0};
        for (int what = 0; what < due.length; what++) {
            check.due("anew count(" + what + ")", x.count(what), due[what]);
        }
        check.due("made anew", x.part(0, 6), 0);
        check.due("ended anew", x.ended(0, false), NONE);
        check.due("why anew", x.why(0), NONE);
        check.due("stands anew", x.stands(0, 0), 0);
        check.due("undo anew", x.undo(), NONE);
        check.due("numbers anew", x.part(0, 1), 2);
    }

    private static void nothingBehindTheEnd() {
        PlugBoard x = new PlugBoard();
        Check.read(x, "part just 1234567 part just 1;");
        check.due("a number that ends with the text", Check.read(x, "part just 123"), NONE);
        check.due("its fault", x.fault(false), 1);
        check.due("its place is the end", x.fault(true), 13);
        Check.read(x, "part justpart");
        check.due("a word that ends with the text", Check.read(x, "part just"), NONE);
        check.due("its place is the end", x.fault(true), 9);
        check.due("brim", Check.type(x, " ".repeat(595) + "part "), 600);
        check.due("read", x.read(), NONE);
        check.due("its place is the end", x.fault(true), 600);
        check.due("brim", Check.type(x, " ".repeat(592) + " partabc"), 600);
        check.due("read", x.read(), NONE);
        check.due("its place", x.fault(true), 593);
        check.due("brim", Check.type(x, " ".repeat(584) + "part just 123456"), 600);
        check.due("read", x.read(), NONE);
        check.due("its place", x.fault(true), 594);
        check.due("brim", Check.type(x, " ".repeat(584) + "part just    12;"), 600);
        check.due("read", x.read(), 1);
    }
}
