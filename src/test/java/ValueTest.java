/** Promise 9: value. */
public final class ValueTest {
    private static final int NONE = PlugBoard.NONE;
    private static final Check check = new Check();

    public static void main(String[] args) {
        acts();
        wrapping();
        kept();
        lazyOnes();
        justAsksForNothing();
        lazyInItsScope();
        ringOfThings();
        ringBehindThings();
        brokenBehindThings();
        ofEachWithoutEnd();
        check.end();
    }

    private static void acts() {
        PlugBoard x = Check.boardOf("part just 7;part just -3;part just 4;"
                + "part just 1 needs 0 1 2;part add 1 needs 0 1 2;part mul 2 needs 0 1 2;"
                + "part max 5 needs 0 1 2;part min 5 needs 0 1 2;part sub 1 needs 0 1 2;part max 9 needs 1;part min -9 needs 1;");
        int[] due = {7, -3, 4, 1, 9, -168, 7, -3, -7, 9, -9};
        for (int p = 0; p < due.length; p++) {
            int thing = x.ask(p);
            check.due("value", x.value(thing), 1);
            check.due("of " + p, x.thing(thing, 3), due[p]);
            check.due("worth", x.worth(p), due[p]);
        }
        check.due("none such", x.value(11), NONE);
        check.due("below", x.value(-1), NONE);
        check.due("acts", x.count(6), 8);
    }

    private static void wrapping() {
        PlugBoard x = Check.boardOf("part just 999;part mul 1 needs 0 0 0 0;part mul 1 needs 1 1 1;part mul - 999 needs 2;");
        int thing = x.ask(3);
        x.value(thing);
        int four = 999 * 999 * 999 * 999;
        check.due("wraps", x.thing(thing, 3), -999 * (four * four * four));
    }

    private static void kept() {
        PlugBoard x = Check.boardOf("part just 5;part add 1 lazy 0;");
        x.ask(1);
        check.due("first", x.value(0), 1);
        check.due("things", x.count(2), 2);
        check.due("values", x.count(3), 2);
        check.due("again", x.value(0), 1);
        check.due("things", x.count(2), 2);
        check.due("acts, also the one that changed nothing", x.count(6), 3);
    }

    private static void lazyOnes() {
        PlugBoard x = Check.boardOf("part add 1 lazy 1 needs 2 lazy 1;part just 10 span each;part add 100 span each lazy 3;part just 900;");
        check.due("ask", x.ask(0), 1);
        check.due("things", Check.things(x), "2@0 0@0");
        check.due("value", x.value(1), 1);
        // The first lazy need, then the eager one's lazy need, then the last lazy one.
        check.due("things then", Check.things(x), "2@0 0@0 1@0 3@0 1@0");
        check.due("sum", x.thing(1, 3), 1 + 10 + 1000 + 10);
        check.due("has 0", x.has(1, 0), 2);
        check.due("has 1", x.has(1, 1), 0);
        check.due("has 2", x.has(1, 2), 4);
    }

    private static void justAsksForNothing() {
        PlugBoard x = Check.boardOf("part just 1 lazy 1 0 needs 2;part just 10;part add 1 lazy 2;");
        check.due("ask", x.ask(0), 1);
        check.due("value", x.value(1), 1);
        check.due("is its number", x.thing(1, 3), 1);
        check.due("nothing was asked", x.count(2), 2);
        check.due("has none", x.has(1, 0), NONE);
        check.due("its eager one has no value", x.thing(0, 2), 0);
    }

    private static void lazyInItsScope() {
        PlugBoard x = Check.boardOf("part add 0 lazy 1;part just 1 span scope;part just 2 span scope;part add 0 span scope lazy 1;");
        x.ask(0);
        x.ask(3);
        x.enter();
        x.stand(1, 2);
        x.ask(3);
        check.due("of the board", x.value(0), 1);
        check.due("scope 0's", x.thing(0, 3), 1);
        check.due("where", Check.things(x), "0@0 3@0 3@1 1@0");
        check.due("of the scope", x.value(2), 1);
        check.due("the one that stands for it here", x.thing(2, 3), 2);
        check.due("where", Check.things(x), "0@0 3@0 3@1 1@0 2@1");
        check.due("of the board's scope part", x.value(1), 1);
        check.due("is there already", x.has(1, 0), 3);
    }

    private static void ringOfThings() {
        PlugBoard x = Check.boardOf("part add 1 needs 1 2;part just 5;part add 2 lazy 3;part add 3 lazy 0;part add 4 lazy 4;");
        x.ask(0);
        check.due("things", Check.things(x), "1@0 2@0 0@0");
        check.due("ring", x.value(2), -2);
        check.due("why", Check.why(x), "-2: 0 2 3 0");
        check.due("what was made stays", Check.things(x), "1@0 2@0 0@0 3@0");
        check.due("what was reckoned stays", x.thing(0, 2), 1);
        check.due("only that", x.count(3), 1);
        check.due("its lazy one from then on", x.has(1, 0), 3);
        check.due("and on", x.has(3, 0), 2);
        check.due("from another one", x.value(3), -2);
        check.due("why", Check.why(x), "-2: 3 0 2 3");
        check.due("itself", x.value(x.ask(4)), -2);
        check.due("why", Check.why(x), "-2: 4 4");
    }

    private static void ringBehindThings() {
        // Nothing is on the way when a lazy need is asked, so part 0 may be made behind its own thing.
        PlugBoard x = Check.boardOf("part add 1 span each lazy 1;part add 2 needs 2;part add 3 needs 3;part add 4 needs 2;part add 5 lazy 0;part add 5 span each lazy 6;part add 1 needs 5;");
        x.ask(4);
        check.due("ring behind two things", x.value(0), -2);
        check.due("why", Check.why(x), "-2: 4 0 1 2 3 2");
        check.due("has the first", x.thing(x.has(0, 0), 0), 0);
        check.due("the second has none", x.has(1, 0), NONE);
        x.ask(5);
        check.due("its own part made again, reckoned till the ring", x.value(2), -2);
        check.due("why", Check.why(x), "-2: 5 6 5 6");
    }

    private static void brokenBehindThings() {
        PlugBoard x = Check.boardOf("part add 1 lazy 1 2;part just 10;part add 1 needs 3;part just 5 breaks 1;");
        x.ask(0);
        check.due("broken", x.value(0), -3);
        check.due("why", Check.why(x), "-3: 0 2 3");
        check.due("no value", x.thing(0, 2), 0);
        check.due("no value", x.thing(0, 3), 0);
        check.due("the first one's is there", x.count(3), 1);
        check.due("has", x.thing(0, 4), 1);
        check.due("then it can", x.value(0), 1);
        check.due("value", x.thing(0, 3), 1 + 10 + 6);
        check.due("why stays", Check.why(x), "-3: 0 2 3");
    }

    private static void ofEachWithoutEnd() {
        PlugBoard x = Check.boardOf("part add 1 span each lazy 0;");
        x.ask(0);
        check.due("full", x.value(0), -4);
        check.due("things", x.count(2), 60);
        check.due("how long the way is", x.count(9), 61);
        check.due("which", x.count(10), -4);
        check.due("the last", x.why(60), 0);
        check.due("no more", x.why(61), NONE);
        check.due("worth", x.worth(0), 0);
        check.due("made", x.part(0, 6), 60);
    }
}
