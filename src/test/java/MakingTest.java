/** Promises 8, 11, 12, 14, 15, 17: ask, and what there is after it. */
public final class MakingTest {
    private static final int NONE = PlugBoard.NONE;
    private static final Check check = new Check();

    public static void main(String[] args) {
        spans();
        needsAreMadeFirst();
        rings();
        ringThroughStandIn();
        scopeRing();
        breaking();
        full();
        fullAtTheEnd();
        whyStays();
        thingQuestions();
        check.end();
    }

    private static void spans() {
        PlugBoard x = Check.boardOf("part just 1;part just 2 span scope;part just 3 span each;");
        check.due("none such", x.ask(3), NONE);
        check.due("below", x.ask(-1), NONE);
        check.due("no act", x.count(6), 0);
        check.due("board", x.ask(0), 0);
        check.due("board again", x.ask(0), 0);
        check.due("scope", x.ask(1), 1);
        check.due("scope again", x.ask(1), 1);
        check.due("each", x.ask(2), 2);
        check.due("each again", x.ask(2), 3);
        x.enter();
        check.due("board in a scope", x.ask(0), 0);
        check.due("scope in a scope", x.ask(1), 4);
        check.due("each in a scope", x.ask(2), 5);
        check.due("things", Check.things(x), "0@0 1@0 2@0 2@0 1@1 2@1");
        check.due("made 0", x.part(0, 6), 1);
        check.due("made 1", x.part(1, 6), 2);
        check.due("made 2", x.part(2, 6), 3);
        check.due("made of all", x.count(4), 6);
        check.due("things of 2", x.part(2, 8), 3);
        check.due("acts", x.count(6), 8);
    }

    private static void needsAreMadeFirst() {
        PlugBoard x = Check.boardOf("part add 1 needs 2 1 lazy 3 needs 2;part just 1 span scope;part add 0 span each needs 1;part just 9;");
        x.enter();
        check.due("would be made", x.would(0, 0), 4);
        check.due("ask", x.ask(0), 3);
        check.due("things", Check.things(x), "1@0 2@0 2@0 0@0");
        check.due("has 0", x.has(3, 0), 1);
        check.due("has 1", x.has(3, 1), 0);
        check.due("has 2, lazy", x.has(3, 2), NONE);
        check.due("has 3", x.has(3, 3), 2);
        check.due("has 4", x.has(3, 4), NONE);
        check.due("has -1", x.has(3, -1), NONE);
        check.due("has of none", x.has(4, 0), NONE);
        check.due("has below", x.has(-1, 0), NONE);
        check.due("how many it has", x.thing(3, 4), 3);
        x.value(3);
        check.due("how many it has then", x.thing(3, 4), 4);
        check.due("its lazy one", x.has(3, 2), 4);
    }

    private static void rings() {
        PlugBoard x = Check.boardOf("part add 1 needs 1;part add 1 needs 3 2;part add 1 needs 1;part just 4;part add 1 needs 4;part add 1 lazy 5;");
        check.due("ring", x.ask(0), -2);
        check.due("its way", Check.why(x), "-2: 0 1 2 1");
        check.due("what was made stays", Check.things(x), "3@0");
        check.due("made of those that can not", x.part(0, 6) + 10 * x.part(1, 6) + 100 * x.part(2, 6), 111);
        check.due("again", x.ask(0), -2);
        check.due("begun again", x.part(1, 6), 2);
        check.due("made 3 once", x.part(3, 6), 1);
        check.due("itself", x.ask(4), -2);
        check.due("its own way", Check.why(x), "-2: 4 4");
        check.due("why above", x.why(2), NONE);
        check.due("why below", x.why(-1), NONE);
        check.due("lazy itself", x.ask(5), 1);
        check.due("why as it was", Check.why(x), "-2: 4 4");
    }

    private static void ringThroughStandIn() {
        PlugBoard x = Check.boardOf("part add 1 needs 1;part just 1;part add 1 needs 0;");
        x.stand(1, 2);
        check.due("ring", x.ask(0), -2);
        check.due("those that were to be made", Check.why(x), "-2: 0 2 0");
        check.due("asked by the other name", x.ask(1), -2);
        check.due("from the one that stands for it", Check.why(x), "-2: 2 0 2");
        x.stand(1, 1);
        check.due("no ring any more", x.ask(2), 2);
    }

    private static void scopeRing() {
        // The way is one of parts: the same part in another scope is a ring, too.
        PlugBoard x = Check.boardOf("part add 1 span scope needs 1;part just 1;part add 1 needs 0;");
        x.stand(1, 1);
        x.enter();
        x.stand(1, 2);
        check.due("ring through the board", x.ask(0), -2);
        check.due("its way", Check.why(x), "-2: 0 2 0");
        x.leave();
        x.ask(0);
        x.enter();
        x.stand(1, 2);
        check.due("none, if it is there on the board", x.ask(0), 3);
        check.due("things", Check.things(x), "1@0 0@0 2@0 0@1");
    }

    private static void breaking() {
        PlugBoard x = Check.boardOf("part just 1 span each breaks 2;part add 1 span each needs 2 0 3;part just 2;part just 3;");
        check.due("first", x.ask(0), 0);
        check.due("second breaks", x.ask(0), -3);
        check.due("why", Check.why(x), "-3: 0");
        check.due("third", x.ask(0), 1);
        check.due("things of it", x.part(0, 8), 2);
        check.due("made", x.part(0, 6), 3);
        PlugBoard y = Check.boardOf("part just 1 breaks 1;part add 1 span each needs 2 0 3;part just 2;part just 3;");
        check.due("needs what breaks", y.ask(1), -3);
        check.due("why", Check.why(y), "-3: 1 0");
        check.due("made ahead of it stays", Check.things(y), "2@0");
        check.due("begun, though", y.part(1, 6), 1);
        check.due("then", y.ask(1), 3);
        check.due("things", Check.things(y), "2@0 0@0 3@0 1@0");
    }

    private static PlugBoard withThings(String text, int each, int many) {
        PlugBoard x = Check.boardOf(text);
        for (int i = 0; i < many; i++) {
            x.ask(each);
        }
        return x;
    }

    private static void full() {
        PlugBoard x = withThings("part just 1 span each;part add 1 needs 0;part add 1 needs 2;part just 1;", 0, 59);
        check.due("things", x.count(2), 59);
        check.due("the 60th", x.ask(3), 59);
        check.due("a 61st", x.ask(0), -4);
        check.due("why", Check.why(x), "-4: 0");
        check.due("not begun", x.part(0, 6), 59);
        check.due("what is there is there", x.ask(3), 59);
        check.due("full ahead of its ring", x.ask(2), -4);
        check.due("why", Check.why(x), "-4: 2");
        check.due("would", x.would(0, 1), -4);
        check.due("would be made", x.would(0, 0), 0);
        check.due("worth", x.worth(0), 0);
    }

    private static void fullAtTheEnd() {
        PlugBoard x = withThings("part just 1 span each;part add 1 needs 0;part add 1 needs 1;part add 1 breaks 1 needs 0;", 0, 59);
        check.due("its need is the 60th", x.would(1, 0), 1);
        check.due("broken ahead of full", x.would(3, 1), -3);
        check.due("full at the end", x.ask(2), -4);
        check.due("why", Check.why(x), "-4: 2 1");
        check.due("things", x.count(2), 60);
        check.due("begun", x.part(1, 6), 1);
        check.due("full at once", x.ask(2), -4);
        check.due("why", Check.why(x), "-4: 2");
    }

    private static void whyStays() {
        PlugBoard x = Check.boardOf("part add 1 needs 0;part just 1;");
        x.ask(0);
        x.ask(1);
        x.value(0);
        x.enter();
        x.leave();
        check.due("why stays", Check.why(x), "-2: 0 0");
        x.ask(7);
        check.due("why stays if there is none such", Check.why(x), "-2: 0 0");
    }

    private static void thingQuestions() {
        PlugBoard x = Check.boardOf("part just 5;part add 2 span scope needs 0;");
        x.enter();
        x.ask(1);
        check.due("part", x.thing(1, 0), 1);
        check.due("scope", x.thing(1, 1), 1);
        check.due("value there", x.thing(1, 2), 0);
        check.due("value", x.thing(1, 3), 0);
        check.due("has", x.thing(1, 4), 1);
        x.value(1);
        check.due("value there then", x.thing(1, 2), 1);
        check.due("value then", x.thing(1, 3), 7);
        check.due("values", x.count(3), 2);
        check.missing("thing above", () -> x.thing(2, 0));
        check.missing("thing below", () -> x.thing(-1, 0));
        check.missing("what above", () -> x.thing(0, 5));
        check.missing("what below", () -> x.thing(0, -1));
    }
}
