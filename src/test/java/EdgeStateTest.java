/** The edges that promises 11 to 18 name, sentence by sentence. */
public final class EdgeStateTest {
    private static final int NONE = PlugBoard.NONE;
    private static final int[] FAR = {Integer.MIN_VALUE, -1000, -2, -1, 12, 60, 1000, Integer.MAX_VALUE};
    private static final Check check = new Check();

    public static void main(String[] args) {
        countOfAnother();
        countOfEach();
        countAheadOfAny();
        countOfValues();
        countOfWhyStays();
        countOfBadIsOfTheLatest();
        partOfNone();
        partOfAnother();
        partOfEach();
        needOfNone();
        needOfEach();
        thingOfNone();
        thingOfAnother();
        thingOfEach();
        thingOfAnEndedNumber();
        hasOfNone();
        hasNoneYet();
        hasMovesWithItsThings();
        hasMovesOnce();
        valuesMoveWithTheirThings();
        standsOfNone();
        standsUpToDepth();
        whyNotSoMany();
        endedNotSoMany();
        endedOfTheLatest();
        check.end();
    }

    /** Parts of each kind; things in two scopes, one with a value; a refusal, an end that was bad. */
    private static PlugBoard rich() {
        PlugBoard x = Check.boardOf("part just 5 bad;part sub -7 needs 0 0 lazy 2 0 breaks 3;part max 9 span scope breaks 9;part min 1 span each needs 3;");
        x.ask(0);
        x.leave();
        x.ask(1);
        x.enter();
        x.ask(2);
        x.value(2);
        x.ask(3);
        x.stand(0, 2);
        x.stand(1, 2);
        Check.type(x, "part just");
        return x;
    }

    private static void countOfAnother() {
        check.of("11: NONE for another what");
        for (PlugBoard x : new PlugBoard[] {new PlugBoard(), rich()}) {
            check.due("below", x.count(-1), NONE);
            check.due("the first", x.count(0) >= 0, true);
            check.due("the last", x.count(10) != NONE, true);
            check.due("above", x.count(11), NONE);
            for (int far : new int[] {Integer.MIN_VALUE, -1000, -2, 12, 1000, 1 << 8, Integer.MAX_VALUE}) {
                check.due("count " + far, x.count(far), NONE);
            }
        }
    }

    private static void countOfEach() {
        check.of("11: What 0: PARTS, .. 10: which it was");
        PlugBoard x = rich();
        int[] due = {4, 1, 3, 1, 5, 2, 8, 9, 1, 2, -2};
        for (int what = 0; what <= 10; what++) {
            check.due("count " + what, x.count(what), due[what]);
        }
    }

    private static void countAheadOfAny() {
        check.of("11: 8: (0 ahead of any), 9: (0 ahead of any), 10: (0)");
        PlugBoard x = Check.boardOf("part just 1 bad;part add 1 needs 1;");
        x.ask(0);
        x.value(0);
        check.due("bad", x.count(8), 0);
        check.due("why", x.count(9), 0);
        check.due("which", x.count(10), 0);
        x.would(1, 1);
        check.due("a question tells no why", x.count(9), 0);
        x.leave();
        x.ask(1);
        check.due("bad", x.count(8), 1);
        check.due("why", x.count(9), 2);
        check.due("which", x.count(10), -2);
    }

    private static void countOfValues() {
        check.of("11: 2: THINGS, 3: those of which the VALUE is there");
        PlugBoard x = Check.boardOf("part just 0 span each;");
        for (int i = 0; i < 60; i++) {
            x.ask(0);
        }
        check.due("none", x.count(3), 0);
        x.value(0);
        check.due("the first", x.count(3), 1);
        x.value(59);
        check.due("the last", x.count(3), 2);
        for (int t = 1; t < 59; t++) {
            x.value(t);
        }
        check.due("all", x.count(3), 60);
        check.due("things of it", x.part(0, 8), 60);
        x.leave();
        check.due("none", x.count(3), 0);
    }

    private static void countOfWhyStays() {
        check.of("11: 9: how many there are in WHY of the latest ask(), value() that told it; 10: (-2, -3, -4; 0)");
        PlugBoard x = Check.boardOf("part just 1 span each;part just 1 breaks 1;part add 1 needs 2;part add 1 needs 1;part add 1 lazy 4;");
        x.ask(2);
        check.due("ring", Check.why(x), "-2: 2 2");
        x.ask(0);
        x.value(0);
        x.ask(9);
        x.value(9);
        check.due("stays behind those that tell none", Check.why(x), "-2: 2 2");
        x.ask(3);
        check.due("broken", Check.why(x), "-3: 3 1");
        x.value(x.ask(4));
        check.due("of a value", Check.why(x), "-2: 4 4");
        for (int i = 0; i < 59; i++) {
            x.ask(0);
        }
        check.due("full", Check.why(x), "-4: 0");
        x.leave();
        check.due("stays behind leave()", Check.why(x), "-4: 0");
    }

    private static void countOfBadIsOfTheLatest() {
        check.of("11: 8: THINGS that ENDED BADLY of the latest leave()");
        PlugBoard x = Check.boardOf("part just 1 span each bad;part just 1 span each;");
        x.ask(0);
        x.ask(0);
        x.ask(1);
        x.leave();
        check.due("two", x.count(8), 2);
        x.ask(0);
        x.enter();
        check.due("still", x.count(8), 2);
        x.ask(1);
        x.leave();
        check.due("none of the latest", x.count(8), 0);
        x.leave();
        check.due("one", x.count(8), 1);
    }

    private static void partOfNone() {
        check.of("12: NoSuchElementException: there is none such");
        for (int what = -1; what <= 9; what++) {
            int kind = what;
            check.missing("no parts, what " + what, () -> new PlugBoard().part(0, kind));
            check.missing("4 of 4, what " + what, () -> rich().part(4, kind));
            check.missing("-1, what " + what, () -> rich().part(-1, kind));
        }
        for (int far : FAR) {
            check.missing("part " + far, () -> rich().part(far, 0));
        }
        PlugBoard x = Check.boardOf("part just 1;".repeat(12));
        check.due("the 12th", x.part(11, 1), 1);
        check.missing("a 13th", () -> x.part(12, 1));
    }

    private static void partOfAnother() {
        check.of("12: NoSuchElementException: another what");
        for (int p = 0; p < 4; p++) {
            int which = p;
            check.missing("below", () -> rich().part(which, -1));
            check.missing("above", () -> rich().part(which, 9));
            check.missing("far above", () -> rich().part(which, Integer.MAX_VALUE));
            check.missing("far below", () -> rich().part(which, Integer.MIN_VALUE));
        }
    }

    private static void partOfEach() {
        check.of("12: Of a PART, what 0: ACT .. 8: THINGS of it");
        PlugBoard x = rich();
        int[][] due = {{0, 5, 0, 0, 0, 1, 2, 0, 1}, {5, -7, 4, 0, 3, 0, 1, 12, 1}, {3, 9, 0, 1, 9, 0, 1, 0, 1}, {4, 1, 1, 2, 0, 0, 1, 0, 0}};
        for (int p = 0; p < due.length; p++) {
            for (int what = 0; what <= 8; what++) {
                check.due("part " + p + " what " + what, x.part(p, what), due[p][what]);
            }
        }
        check.due("all lazy", Check.boardOf("part add 1 lazy 0 0 0 0;").part(0, 7), 15);
        check.due("the last alone", Check.boardOf("part add 1 needs 0 0 0 lazy 0;").part(0, 7), 8);
        check.due("the first alone", Check.boardOf("part add 1 lazy 0 needs 0 0 0;").part(0, 7), 1);
    }

    private static void needOfNone() {
        check.of("13: NONE: there is none such (of either)");
        check.due("no parts", new PlugBoard().need(0, 0), NONE);
        PlugBoard x = rich();
        for (int far : FAR) {
            check.due("part " + far, x.need(far, 0), NONE);
            check.due("k " + far, x.need(1, far), NONE);
            check.due("both " + far, x.need(far, far), NONE);
        }
        check.due("part 4 of 4", x.need(4, 0), NONE);
        check.due("of no needs", x.need(0, 0), NONE);
        check.due("k 1 of one", x.need(3, 1), NONE);
        check.due("k 4 of four", x.need(1, 4), NONE);
        check.due("what would be the same row", x.need(0, 4), NONE);
        check.due("k 1 << 30 goes nowhere", x.need(1 << 30, 1), NONE);
    }

    private static void needOfEach() {
        check.of("13: The k-th NEED of a PART");
        PlugBoard x = Check.boardOf("part add 1 needs 11 lazy 0 needs 5;" + "part just 1;".repeat(10) + "part add 1 lazy 11 10 9 needs 8;");
        int[] first = {11, 0, 5, NONE, NONE};
        int[] last = {11, 10, 9, 8, NONE};
        for (int k = 0; k <= 4; k++) {
            check.due("of the first", x.need(0, k), first[k]);
            check.due("of the last", x.need(11, k), last[k]);
        }
    }

    private static void thingOfNone() {
        check.of("14: NoSuchElementException: there is none such");
        for (int what = -1; what <= 5; what++) {
            int kind = what;
            check.missing("no things, what " + what, () -> new PlugBoard().thing(0, kind));
            check.missing("3 of 3, what " + what, () -> rich().thing(3, kind));
            check.missing("-1, what " + what, () -> rich().thing(-1, kind));
        }
        for (int far : FAR) {
            check.missing("thing " + far, () -> rich().thing(far, 0));
        }
        PlugBoard x = rich();
        x.leave();
        check.due("what ended leaves two", x.thing(1, 0), 1);
        check.missing("the third ended", () -> x.thing(2, 0));
        x.leave();
        check.missing("all ended", () -> x.thing(0, 0));
    }

    private static void thingOfAnother() {
        check.of("14: NoSuchElementException: another what");
        for (int t = 0; t < 3; t++) {
            int which = t;
            check.missing("below", () -> rich().thing(which, -1));
            check.missing("above", () -> rich().thing(which, 5));
            check.missing("far above", () -> rich().thing(which, Integer.MAX_VALUE));
            check.missing("far below", () -> rich().thing(which, Integer.MIN_VALUE));
        }
    }

    private static void thingOfEach() {
        check.of("14: 3: VALUE (0, if it is not there), 4: how many THINGS it has of its NEEDS");
        PlugBoard x = rich();
        int[][] due = {{0, 0, 0, 0, 0}, {1, 0, 0, 0, 2}, {2, 1, 1, 9, 0}};
        for (int t = 0; t < due.length; t++) {
            for (int what = 0; what <= 4; what++) {
                check.due("thing " + t + " what " + what, x.thing(t, what), due[t][what]);
            }
        }
        x.value(1);
        check.due("all of its needs then", x.thing(1, 4), 4);
        check.due("value", x.thing(1, 3), -7 - 5 - 5 - 9 - 5);
        PlugBoard y = Check.boardOf("part just 0;");
        y.ask(0);
        y.value(0);
        check.due("a value that is 0", y.thing(0, 3), 0);
        check.due("is there", y.thing(0, 2), 1);
    }

    private static void thingOfAnEndedNumber() {
        check.of("14: 3: VALUE (0, if it is not there), of a THING with the number of one that ENDED");
        PlugBoard x = Check.boardOf("part add 7 span each lazy 1;part just 5 span each;");
        x.ask(0);
        x.value(0);
        check.due("value", x.thing(0, 3), 12);
        check.due("it has", x.has(0, 0), 1);
        x.leave();
        x.ask(0);
        check.due("no value", x.thing(0, 2), 0);
        check.due("0", x.thing(0, 3), 0);
        check.due("has none", x.thing(0, 4), 0);
        check.due("has none", x.has(0, 0), NONE);
    }

    private static void hasOfNone() {
        check.of("15: NONE: there is none such (of any)");
        check.due("no things", new PlugBoard().has(0, 0), NONE);
        PlugBoard x = rich();
        for (int far : FAR) {
            check.due("thing " + far, x.has(far, 0), NONE);
            check.due("k " + far, x.has(1, far), NONE);
            check.due("both " + far, x.has(far, far), NONE);
        }
        check.due("thing 3 of 3", x.has(3, 0), NONE);
        check.due("of no needs", x.has(0, 0), NONE);
        check.due("k 4", x.has(1, 4), NONE);
        check.due("k 4 of the one ahead of it", x.has(0, 4), NONE);
        check.due("far off, the same row", x.has(1 << 30, 1), NONE);
        x.value(1);
        check.due("k 3", x.has(1, 3), 0);
        check.due("k 4 still", x.has(1, 4), NONE);
    }

    private static void hasNoneYet() {
        check.of("15: NONE: it has none yet");
        PlugBoard x = Check.boardOf("part add 1 needs 1 lazy 1 needs 1 lazy 2;part just 1 span each;part just 2;");
        check.due("ask", x.ask(0), 2);
        int[] before = {0, NONE, 1, NONE};
        int[] then = {0, 3, 1, 4};
        for (int k = 0; k < 4; k++) {
            check.due("ahead of its value", x.has(2, k), before[k]);
        }
        x.value(2);
        for (int k = 0; k < 4; k++) {
            check.due("then", x.has(2, k), then[k]);
        }
    }

    private static void hasMovesWithItsThings() {
        check.of("Terms 2: numbered from 0 on as they were made, of those that live");
        PlugBoard x = Check.boardOf("part just 1 span scope;part add 1 needs 2 2 lazy 3;part just 1;part just 1;");
        x.enter();
        x.ask(0);
        x.ask(1);
        x.enter();
        x.ask(0);
        x.value(2);
        check.due("things", Check.things(x), "0@1 2@0 1@0 0@2 3@0");
        x.leave();
        check.due("things", Check.things(x), "0@1 2@0 1@0 3@0");
        check.due("one behind it moved", x.has(2, 2), 3);
        x.leave();
        check.due("things", Check.things(x), "2@0 1@0 3@0");
        check.due("one ahead of it moved", x.has(1, 0), 0);
        check.due("and the same", x.has(1, 1), 0);
        check.due("and the last", x.has(1, 2), 2);
        check.due("none is no number", x.has(1, 3), NONE);
        check.due("its value moved with it", x.thing(1, 3), 4);
        check.due("the next is numbered behind", x.ask(0), 3);
    }

    private static void hasMovesOnce() {
        check.of("15: The THING of the k-th NEED of a THING (when others END)");
        PlugBoard x = Check.boardOf("part add 1 lazy 2 2 needs 3 lazy 2;part just 1 span scope;part just 1 span each;part just 1;");
        x.ask(0);
        x.enter();
        x.ask(1);
        x.ask(2);
        check.due("none yet", x.has(1, 3), NONE);
        check.due("value", x.value(1), 1);
        check.due("things", Check.things(x), "3@0 0@0 1@1 2@1 2@0 2@0 2@0");
        check.due("leave", x.leave(), 2);
        int[] due = {2, 3, 0, 4};
        for (int k = 0; k < 4; k++) {
            check.due("has " + k, x.has(1, k), due[k]);
        }
        PlugBoard y = Check.boardOf("part add 1 lazy 1 needs 2 lazy 1;part just 1;part just 1;part just 1 span scope;");
        y.enter();
        y.ask(3);
        y.ask(0);
        check.due("leave", y.leave(), 1);
        int[] eager = {NONE, 0, NONE, NONE};
        for (int k = 0; k < 4; k++) {
            check.due("has " + k, y.has(1, k), eager[k]);
        }
        PlugBoard z = Check.boardOf("part add 1 lazy 1;part just 1;part just 1 span scope;");
        z.ask(0);
        z.enter();
        z.ask(2);
        z.value(0);
        check.due("a need behind it", z.has(0, 0), 2);
        z.leave();
        check.due("of the first thing, too", z.has(0, 0), 1);
    }

    private static void valuesMoveWithTheirThings() {
        check.of("14: VALUE (of those that live when others END)");
        PlugBoard x = Check.boardOf("part just 1;part just 2;part just 3;part just 4 span scope;part just 5 span scope;");
        x.enter();
        x.ask(3);
        x.ask(0);
        x.ask(4);
        x.ask(1);
        x.ask(2);
        x.value(0);
        x.value(3);
        check.due("things", Check.things(x), "3@1 0@0 4@1 1@0 2@0");
        check.due("leave", x.leave(), 2);
        check.due("things", Check.things(x), "0@0 1@0 2@0");
        int[] due = {0, 2, 0};
        for (int t = 0; t < 3; t++) {
            check.due("is it there: " + t, x.thing(t, 2), due[t] == 0 ? 0 : 1);
            check.due("value " + t, x.thing(t, 3), due[t]);
        }
        check.due("values", x.count(3), 1);
    }

    private static void standsOfNone() {
        check.of("16: NONE: there is none such (of either)");
        check.due("no parts", new PlugBoard().stands(0, 0), NONE);
        PlugBoard x = rich();
        for (int far : FAR) {
            check.due("part " + far, x.stands(far, 0), NONE);
            check.due("scope " + far, x.stands(0, far), NONE);
            check.due("both " + far, x.stands(far, far), NONE);
        }
        check.due("part 4 of 4", x.stands(4, 0), NONE);
        check.due("scope 2 at depth 1", x.stands(0, 2), NONE);
        check.due("scope 5", x.stands(0, 5), NONE);
    }

    private static void standsUpToDepth() {
        check.of("16: if it is ASKED in a SCOPE, 0 to DEPTH (itself, if none does)");
        PlugBoard x = Check.boardOf("part just 1;part just 2;part just 3;");
        check.due("itself", x.stands(2, 0), 2);
        for (int depth = 0; depth <= 4; depth++) {
            if (depth == 1 || depth == 3) {
                x.stand(0, depth == 1 ? 1 : 2);
            }
            check.due("at depth " + depth, x.stands(0, depth), depth == 0 ? 0 : depth < 3 ? 1 : 2);
            check.due("one too deep", x.stands(0, depth + 1), NONE);
            check.due("one too low", x.stands(0, -1), NONE);
            x.enter();
        }
        int[] due = {0, 1, 1, 2, 2};
        for (int scope = 0; scope <= 4; scope++) {
            check.due("scope " + scope, x.stands(0, scope), due[scope]);
            check.due("another in it", x.stands(1, scope), 1);
        }
        x.leave();
        check.due("a scope that was left", x.stands(0, 4), NONE);
    }

    private static void whyNotSoMany() {
        check.of("17: The k-th PART in WHY. NONE: not so many");
        check.due("ahead of any", new PlugBoard().why(0), NONE);
        PlugBoard x = Check.boardOf("part add 1 needs 1;part add 1 needs 2;part just 1 breaks 1;");
        check.due("ahead of any", x.why(0), NONE);
        x.ask(0);
        int[] due = {0, 1, 2, NONE, NONE};
        for (int k = 0; k < due.length; k++) {
            check.due("why " + k, x.why(k), due[k]);
        }
        for (int far : new int[] {Integer.MIN_VALUE, -2, -1, 72, 73, 74, 1000, Integer.MAX_VALUE}) {
            check.due("why " + far, x.why(far), NONE);
        }
        PlugBoard y = Check.boardOf("part add 1 needs 1;part add 1 needs 0 2;part just 1 breaks 1;");
        y.ask(0);
        check.due("three", y.why(2), 0);
        y.ask(2);
        check.due("one", y.why(0), 2);
        check.due("those of the one ahead are gone", y.why(1), NONE);
    }

    private static void endedNotSoMany() {
        check.of("18: The PART of the k-th THING that ENDED, or (bad) of the k-th that ENDED BADLY. NONE: not so many");
        check.due("ahead of any", new PlugBoard().ended(0, false), NONE);
        check.due("ahead of any", new PlugBoard().ended(0, true), NONE);
        PlugBoard x = Check.boardOf("part just 1 bad;part just 1;part just 1 bad;");
        x.ask(0);
        x.ask(1);
        x.ask(2);
        check.due("ahead of leave()", x.ended(0, false), NONE);
        x.leave();
        int[] all = {2, 1, 0, NONE};
        int[] bad = {2, 0, NONE, NONE};
        for (int k = 0; k < 4; k++) {
            check.due("ended " + k, x.ended(k, false), all[k]);
            check.due("badly " + k, x.ended(k, true), bad[k]);
        }
        for (int far : FAR) {
            check.due("ended " + far, x.ended(far, false), NONE);
            check.due("badly " + far, x.ended(far, true), NONE);
        }
    }

    private static void endedOfTheLatest() {
        check.of("18: by the latest leave() (the latest made first)");
        PlugBoard x = Check.boardOf("part just 1 bad span scope;part just 1 span scope;");
        x.ask(0);
        x.enter();
        x.ask(1);
        x.ask(0);
        x.leave();
        check.due("of the scope", Check.ended(x, false), "0 1");
        x.enter();
        x.ask(1);
        check.due("stays till the next", Check.ended(x, false), "0 1");
        x.leave();
        check.due("of the next", Check.ended(x, false), "1");
        check.due("none badly", x.ended(0, true), NONE);
        x.enter();
        x.leave();
        check.due("of none", x.ended(0, false), NONE);
        x.leave();
        check.due("of the board", Check.ended(x, true), "0");
    }
}
