/** Promises 22, 23: would, worth. */
public final class WouldTest {
    private static final int NONE = PlugBoard.NONE;
    private static final Check check = new Check();

    public static void main(String[] args) {
        wouldBeMade();
        comesToNothing();
        worthOf();
        nothingChanges();
        check.end();
    }

    private static void wouldBeMade() {
        PlugBoard x = Check.boardOf("part just 5;part add 1 needs 0 lazy 2;part just 7 span each;part add 0 span scope needs 1 2 2;");
        check.due("things", x.would(3, 0), 5);
        check.due("told", x.would(3, 1), 4);
        x.ask(0);
        check.due("things", x.would(3, 0), 4);
        check.due("told", x.would(3, 1), 4);
        check.due("there", x.would(0, 0), 0);
        check.due("told", x.would(0, 1), 0);
        x.enter();
        x.stand(0, 2);
        check.due("by the one that stands for it", x.would(0, 0), 1);
        check.due("told", x.would(0, 1), 1);
        check.due("none such", x.would(4, 0), NONE);
        check.due("below", x.would(-1, 1), NONE);
        check.due("another what", x.would(0, 2), NONE);
        check.due("what below", x.would(0, -1), NONE);
    }

    private static void comesToNothing() {
        PlugBoard x = Check.boardOf("part just 5;part add 1 needs 0 2;part add 1 needs 1;part just 1 breaks 1;part add 1 needs 0 3;");
        check.due("made, though", x.would(1, 0), 1);
        check.due("ring", x.would(1, 1), -2);
        check.due("broken", x.would(4, 1), -3);
        check.due("made, though", x.would(4, 0), 1);
        check.due("worth", x.worth(4), 0);
        x.ask(3);
        check.due("not any more", x.would(4, 1), 2);
        check.due("worth", x.worth(4), 7);
    }

    private static void worthOf() {
        PlugBoard x = Check.boardOf("part just 5;part add 1 lazy 0 0;part mul 2 needs 1;part add 1 lazy 3;part add 1 lazy 4;part just 3 breaks 1;");
        check.due("worth", x.worth(2), 22);
        check.due("a value that can not be", x.worth(3), 0);
        check.due("a value that needs it", x.worth(4), 0);
        check.due("broken", x.worth(5), 0);
        check.due("none such", x.worth(6), 0);
        check.due("below", x.worth(-1), 0);
        x.ask(2);
        x.value(1);
        check.due("as it is there", x.worth(2), 22);
        x.stand(2, 0);
        check.due("of the one that stands for it", x.worth(2), 5);
    }

    private static void nothingChanges() {
        PlugBoard x = Check.boardOf("part just 5;part add 1 needs 0 lazy 2;part add 1 needs 2;");
        x.would(1, 0);
        x.worth(1);
        x.would(2, 1);
        x.worth(2);
        check.due("things", x.count(2), 0);
        check.due("made", x.count(4), 0);
        check.due("acts", x.count(6), 0);
        check.due("why", Check.why(x), "0:");
        x.ask(1);
        x.worth(1);
        check.due("values", x.count(3), 0);
        check.due("lazy one", x.has(1, 1), NONE);
        check.due("why", Check.why(x), "0:");
    }
}
