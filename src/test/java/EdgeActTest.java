/** The edges that Terms 2 and promises 5 to 9 name, sentence by sentence. */
public final class EdgeActTest {
    private static final int NONE = PlugBoard.NONE;
    private static final int[] FAR = {Integer.MIN_VALUE, -1000, -2, -1, 12, 60, 1000, Integer.MAX_VALUE};
    private static final Check check = new Check();

    public static void main(String[] args) {
        depthUpToFour();
        leaveOfNothing();
        leaveOfTheBoard();
        leaveOfOneScope();
        leaveOfAll();
        leaveEndsInReverse();
        standOfNoPart();
        standThatIsSo();
        standInTheInnermost();
        standOfTwelve();
        standGoesOneStep();
        askOfNoPart();
        askOncePerSpan();
        askStaysOnTheBoard();
        ringOfItself();
        ringOfTwelve();
        ringAheadOfFull();
        thingAheadOfRing();
        breaksNever();
        breaksTheNth();
        breaksBehindItsNeeds();
        sixtyThings();
        fullBehindItsNeeds();
        brokenAheadOfFull();
        fullNoMore();
        madeIsCounted();
        needsOfAllOnTheWay();
        whyOfStandIns();
        whatWasMadeStays();
        valueOfNoThing();
        valueIsKept();
        valueWrapsAround();
        valueOfTheLeast();
        valueWithoutNeeds();
        valueOfJust();
        valueRingOfItself();
        valueRingOfSixty();
        valueOfLongWays();
        whyAtItsLongest();
        whyWithoutWhatIsReckoned();
        lazyIsAskedOnce();
        lazyWithNothingOnTheWay();
        check.end();
    }

    private static PlugBoard filled(String text, int part, int many) {
        PlugBoard x = Check.boardOf(text);
        for (int i = 0; i < many; i++) {
            x.ask(part);
        }
        return x;
    }

    private static void depthUpToFour() {
        check.of("5: its DEPTH. NONE: there are 4. Terms 2: DEPTH 0 (at first) to 4");
        PlugBoard x = new PlugBoard();
        check.due("at first", x.count(1), 0);
        for (int depth = 1; depth <= 4; depth++) {
            check.due("enter", x.enter(), depth);
            check.due("depth", x.count(1), depth);
        }
        check.due("a 5th", x.enter(), NONE);
        check.due("and again", x.enter(), NONE);
        check.due("depth stays", x.count(1), 4);
        x.leave();
        check.due("room for one", x.enter(), 4);
        check.due("no more", x.enter(), NONE);
        PlugBoard y = Check.boardOf("part just 1 span scope;");
        for (int depth = 1; depth <= 4; depth++) {
            y.enter();
        }
        check.due("the deepest has things", y.ask(0), 0);
        check.due("in scope 4", y.thing(0, 1), 4);
    }

    private static void leaveOfNothing() {
        check.of("6: how many THINGS ENDED (none)");
        PlugBoard x = new PlugBoard();
        check.due("of the board", x.leave(), 0);
        check.due("depth", x.count(1), 0);
        check.due("again", x.leave(), 0);
        check.due("depth", x.count(1), 0);
        x.enter();
        check.due("of a scope", x.leave(), 0);
        check.due("depth", x.count(1), 0);
        check.due("nothing is told", x.ended(0, false), NONE);
        check.due("acts", x.count(6), 4);
    }

    private static void leaveOfTheBoard() {
        check.of("6: of DEPTH 0: all of the board ENDS, it is empty then");
        PlugBoard x = Check.boardOf("part just 1;part just 2 span scope bad;part just 3 span each;");
        x.ask(0);
        x.ask(1);
        x.ask(2);
        x.stand(0, 1);
        x.stand(2, 1);
        check.due("leave", x.leave(), 3);
        check.due("ended", Check.ended(x, false), "2 1 0");
        check.due("badly", Check.ended(x, true), "1");
        check.due("things", x.count(2), 0);
        check.due("stood for", x.count(5), 0);
        check.due("depth", x.count(1), 0);
        check.due("parts stay", x.count(0), 3);
        check.due("MADE is for ever", x.count(4), 3);
        check.due("the first is 0 again", x.ask(2), 0);
        check.due("leave again", x.leave(), 1);
        check.due("ended", Check.ended(x, false), "2");
        check.due("badly", x.count(8), 0);
    }

    private static void leaveOfOneScope() {
        check.of("6: The innermost SCOPE is LEFT; Terms 2: what was STOOD FOR in it is no more");
        PlugBoard x = Check.boardOf("part just 1;part just 2 span scope;part just 3 span each bad;");
        for (int depth = 0; depth <= 4; depth++) {
            x.ask(1);
            x.stand(0, 2);
            if (depth < 4) {
                x.enter();
            }
        }
        x.ask(2);
        check.due("things", x.count(2), 6);
        check.due("stood for", x.count(5), 5);
        for (int depth = 4; depth >= 0; depth--) {
            check.due("leave", x.leave(), depth == 4 ? 2 : 1);
            check.due("ended", Check.ended(x, false), depth == 4 ? "2 1" : "1");
            check.due("badly", x.count(8), depth == 4 ? 1 : 0);
            check.due("things", x.count(2), depth);
            check.due("stood for", x.count(5), depth);
            check.due("depth", x.count(1), Math.max(0, depth - 1));
        }
    }

    private static void leaveOfAll() {
        check.of("6: how many THINGS ENDED (60 at most)");
        PlugBoard x = filled("part just 1 span each bad;", 0, 60);
        check.due("leave", x.leave(), 60);
        check.due("badly", x.count(8), 60);
        check.due("the last", x.ended(59, false), 0);
        check.due("the last badly", x.ended(59, true), 0);
        check.due("no more", x.ended(60, false), NONE);
        check.due("no more badly", x.ended(60, true), NONE);
        check.due("undo", x.undo(), 7);
        check.due("all 60 are there", x.count(2), 60);
    }

    private static void leaveEndsInReverse() {
        check.of("Terms 2: all its THINGS END, the latest first; those whose PART ENDS BADLY are told");
        PlugBoard x = Check.boardOf("part just 0 span each bad;part just 1 span each;part just 2 span each bad;part just 3;");
        x.enter();
        x.ask(0);
        x.ask(1);
        x.ask(3);
        x.ask(2);
        x.ask(1);
        x.ask(0);
        check.due("leave", x.leave(), 5);
        check.due("ended", Check.ended(x, false), "0 1 2 1 0");
        check.due("badly", Check.ended(x, true), "0 2 0");
        check.due("how many", x.count(8), 3);
        check.due("the board's stays, as 0", Check.things(x), "3@0");
    }

    private static void standOfNoPart() {
        check.of("7: false: there is none such");
        PlugBoard none = new PlugBoard();
        check.due("no parts", none.stand(0, 0), false);
        PlugBoard x = Check.boardOf("part just 1;part just 2;");
        for (int far : FAR) {
            check.due("part " + far, x.stand(far, 0), false);
            check.due("by " + far, x.stand(0, far), false);
            check.due("both " + far, x.stand(far, far), false);
        }
        check.due("part 2 of 2", x.stand(2, 0), false);
        check.due("by 2 of 2", x.stand(0, 2), false);
        check.due("itself, of none", x.stand(2, 2), false);
        check.due("no acts", x.count(6), 0);
        check.due("none stood for", x.count(5), 0);
        check.due("the last by the first", x.stand(1, 0), true);
        check.due("the first by the last", x.stand(0, 1), true);
    }

    private static void standThatIsSo() {
        check.of("7: (by itself: by none): true. false: it is so already");
        PlugBoard x = Check.boardOf("part just 1;part just 2;part just 3;");
        check.due("by none already", x.stand(1, 1), false);
        check.due("by 2", x.stand(1, 2), true);
        check.due("by 2 already", x.stand(1, 2), false);
        check.due("by 0", x.stand(1, 0), true);
        check.due("by 0 already", x.stand(1, 0), false);
        check.due("one is stood for", x.count(5), 1);
        check.due("by itself", x.stand(1, 1), true);
        check.due("by itself already", x.stand(1, 1), false);
        check.due("none is", x.count(5), 0);
        check.due("itself", x.stands(1, 0), 1);
        check.due("acts", x.count(6), 3);
    }

    private static void standInTheInnermost() {
        check.of("7: in the innermost SCOPE");
        PlugBoard x = Check.boardOf("part just 1;part just 2;part just 3;");
        x.stand(0, 1);
        x.enter();
        check.due("by none here already", x.stand(0, 0), false);
        check.due("by the same as around: not so here yet", x.stand(0, 1), true);
        check.due("now it is", x.stand(0, 1), false);
        check.due("by another", x.stand(0, 2), true);
        check.due("here", x.stands(0, 1), 2);
        check.due("around", x.stands(0, 0), 1);
        check.due("by none here", x.stand(0, 0), true);
        check.due("as around then", x.stands(0, 1), 1);
        x.leave();
        check.due("by none on the board", x.stand(0, 0), true);
        check.due("itself", x.stands(0, 0), 0);
    }

    private static void standOfTwelve() {
        check.of("7, 11: PARTS STOOD FOR in all SCOPES (all there can be)");
        PlugBoard x = Check.boardOf("part just 1;".repeat(12));
        for (int depth = 0; depth <= 4; depth++) {
            for (int p = 0; p < 12; p++) {
                check.due("stand", x.stand(p, (p + 1 + depth) % 12), true);
            }
            if (depth < 4) {
                x.enter();
            }
        }
        check.due("all", x.count(5), 60);
        check.due("the last here", x.stands(11, 4), 4);
        check.due("the last on the board", x.stands(11, 0), 0);
        check.due("the first here", x.stands(0, 4), 5);
    }

    private static void standGoesOneStep() {
        check.of("Terms 2: the one that stands for it (which is not asked whether it is STOOD FOR)");
        PlugBoard x = Check.boardOf("part just 1;part just 2;part just 3;");
        x.stand(0, 1);
        x.stand(1, 2);
        x.stand(2, 0);
        check.due("0 is 1", x.thing(x.ask(0), 0), 1);
        check.due("1 is 2", x.thing(x.ask(1), 0), 2);
        check.due("2 is 0", x.thing(x.ask(2), 0), 0);
        check.due("each once", x.count(2), 3);
    }

    private static void askOfNoPart() {
        check.of("8: NONE: there is none such");
        check.due("no parts", new PlugBoard().ask(0), NONE);
        PlugBoard x = Check.boardOf("part just 1;part just 2;");
        for (int far : FAR) {
            check.due("ask " + far, x.ask(far), NONE);
        }
        check.due("2 of 2", x.ask(2), NONE);
        check.due("nothing is told", x.count(10), 0);
        check.due("no acts", x.count(6), 0);
        check.due("the last", x.ask(1), 0);
    }

    private static void askOncePerSpan() {
        check.of("Terms 2: BOARD: its THING in SCOPE 0; SCOPE: its THING in that SCOPE; (EACH: always) it is MADE");
        PlugBoard x = Check.boardOf("part just 1;part just 2 span scope;part just 3 span each;");
        for (int depth = 0; depth <= 4; depth++) {
            int board = x.ask(0);
            check.due("board", board, 0);
            check.due("of the board", x.thing(board, 1), 0);
            int scope = x.ask(1);
            check.due("scope once more", x.ask(1), scope);
            check.due("of the scope", x.thing(scope, 1), depth);
            int each = x.ask(2);
            check.due("each is another", x.ask(2), each + 1);
            check.due("of the scope, too", x.thing(each, 1), depth);
            x.enter();
        }
        check.due("board's once", x.part(0, 8), 1);
        check.due("scope's five times", x.part(1, 8), 5);
        check.due("each ten times", x.part(2, 8), 10);
    }

    private static void askStaysOnTheBoard() {
        check.of("Terms 2: ASKED, in the SCOPE in which the THING will live (0 of BOARD, else the one in which it is ASKED)");
        PlugBoard x = Check.boardOf("part add 1 needs 3 2;part add 1 span scope needs 3 2;part just 1 span each;part just 1 span scope;");
        x.enter();
        x.enter();
        x.ask(0);
        check.due("needs of the board's", Check.things(x), "3@0 2@0 0@0");
        x.ask(1);
        check.due("needs of the scope's", Check.things(x), "3@0 2@0 0@0 3@2 2@2 1@2");
    }

    private static void ringOfItself() {
        check.of("8: -2 RING; Terms 2: to that which is in a RING (which is there twice then)");
        for (String span : new String[] {"board", "scope", "each"}) {
            PlugBoard x = Check.boardOf("part add 1 span " + span + " needs 0;");
            check.due("ring", x.ask(0), -2);
            check.due("why", Check.why(x), "-2: 0 0");
            check.due("made once", x.part(0, 6), 1);
            check.due("no thing", x.count(2), 0);
        }
    }

    private static void ringOfTwelve() {
        check.of("Terms 2: WHY: each one needed by the one ahead of it (all 12 parts)");
        StringBuilder text = new StringBuilder();
        for (int p = 0; p < 12; p++) {
            text.append("part add 1 needs ").append((p + 1) % 12).append(';');
        }
        PlugBoard x = Check.boardOf(text.toString());
        check.due("ring", x.ask(3), -2);
        check.due("why", Check.why(x), "-2: 3 4 5 6 7 8 9 10 11 0 1 2 3");
        check.due("how many", x.count(9), 13);
        check.due("each begun once", x.count(4), 12);
        check.due("why(13)", x.why(13), NONE);
        PlugBoard y = Check.boardOf(text.toString().replace("needs 0;", ";"));
        check.due("twelve in a row are no ring", y.ask(0), 11);
    }

    private static void ringAheadOfFull() {
        check.of("Terms 2: it is on the WAY already: RING; there are 60 THINGS: FULL (in this order)");
        PlugBoard x = filled("part just 1 span each;part add 1 span each needs 0 1;", 0, 59);
        check.due("the 60th is made on the way, then the ring", x.ask(1), -2);
        check.due("why", Check.why(x), "-2: 1 1");
        check.due("things", x.count(2), 60);
        check.due("now it is full ahead", x.ask(1), -4);
        check.due("why", Check.why(x), "-4: 1");
    }

    private static void thingAheadOfRing() {
        check.of("Terms 2: if there is one, that is it (ahead of RING, FULL)");
        PlugBoard x = Check.boardOf("part add 1 span scope needs 1;part add 1 lazy 0;part add 1 needs 0;part just 1 span each;");
        x.ask(0);
        x.enter();
        x.stand(1, 2);
        check.due("on the way here, but there on the board", x.ask(0), 3);
        check.due("things", Check.things(x), "1@0 0@0 2@0 0@1");
        for (int i = 0; i < 56; i++) {
            x.ask(3);
        }
        check.due("full", x.ask(3), -4);
        check.due("board's is there", x.ask(2), 2);
        check.due("scope's is there", x.ask(0), 3);
    }

    private static void breaksNever() {
        check.of("Terms 1: BREAKS, 0 to 9 (0: never)");
        PlugBoard x = Check.boardOf("part just 1 span each;part just 1 span each breaks 0;");
        for (int i = 0; i < 30; i++) {
            check.due("without", x.ask(0), 2 * i);
            check.due("breaks 0", x.ask(1), 2 * i + 1);
        }
    }

    private static void breaksTheNth() {
        check.of("Terms 2: if MADE was BREAKS when it was begun: BROKEN; 8: -3 BROKEN");
        for (int breaks = 1; breaks <= 9; breaks++) {
            PlugBoard x = Check.boardOf("part just 1 span each breaks " + breaks + ";");
            for (int nth = 1; nth <= 12; nth++) {
                int due = nth < breaks ? nth - 1 : nth == breaks ? -3 : nth - 2;
                check.due("the " + nth + ". of breaks " + breaks, x.ask(0), due);
                check.due("made", x.part(0, 6), nth);
            }
            check.due("why", Check.why(x), "-3: 0");
            check.due("things", x.count(2), 11);
        }
        PlugBoard y = Check.boardOf("part just 1 breaks 2;");
        check.due("made once, asked often", y.ask(0), 0);
        check.due("not begun again", y.ask(0), 0);
        y.leave();
        check.due("MADE goes on over leave()", y.ask(0), -3);
        check.due("and on", y.ask(0), 0);
    }

    private static void breaksBehindItsNeeds() {
        check.of("Terms 2: Each EAGER NEED, in order, is ASKED. Then, if MADE was BREAKS: BROKEN");
        PlugBoard x = Check.boardOf("part add 1 breaks 1 needs 1 lazy 2;part just 1;part just 1;");
        check.due("broken", x.ask(0), -3);
        check.due("its need is made", Check.things(x), "1@0");
        check.due("why", Check.why(x), "-3: 0");
        PlugBoard y = Check.boardOf("part add 1 breaks 1 needs 0;");
        check.due("a ring comes first", y.ask(0), -2);
        check.due("and again", y.ask(0), -2);
    }

    private static void sixtyThings() {
        check.of("Terms 2: THINGS live, at most 60; 8: -4 FULL");
        PlugBoard x = Check.boardOf("part just 1 span each;part just 1;");
        for (int i = 0; i < 60; i++) {
            check.due("thing", x.ask(0), i);
        }
        check.due("a 61st", x.ask(0), -4);
        check.due("why", Check.why(x), "-4: 0");
        check.due("another's", x.ask(1), -4);
        check.due("why", Check.why(x), "-4: 1");
        check.due("things", x.count(2), 60);
        check.due("not begun", x.part(0, 6), 60);
        check.due("not begun", x.part(1, 6), 0);
        check.due("the last", x.thing(59, 0), 0);
        check.missing("no 61st", () -> x.thing(60, 0));
        check.due("its value", x.value(59), 1);
        check.due("no value of a 61st", x.value(60), NONE);
    }

    private static void fullBehindItsNeeds() {
        check.of("Terms 2: are there 60 THINGS: FULL (when its needs are there)");
        PlugBoard x = filled("part just 1 span each;part add 1 span each needs 0;part add 1 needs 0 1;", 0, 58);
        check.due("two places, two things", x.would(1, 1), 59);
        check.due("two places, three things and more", x.ask(2), -4);
        check.due("why", Check.why(x), "-4: 2 1");
        check.due("things", x.count(2), 60);
        check.due("begun", x.part(1, 6), 1);
        x.undo();
        check.due("undone", x.count(2), 58);
        x.ask(0);
        check.due("one place, two things", x.ask(1), -4);
        check.due("why", Check.why(x), "-4: 1");
        check.due("its need stays", x.count(2), 60);
    }

    private static void brokenAheadOfFull() {
        check.of("Terms 2: BROKEN; are there 60 THINGS: FULL (in this order)");
        PlugBoard x = filled("part just 1 span each;part add 1 span each breaks 1 needs 0;", 0, 59);
        check.due("broken", x.ask(1), -3);
        check.due("things", x.count(2), 60);
        check.due("then full, ahead of all", x.ask(1), -4);
        check.due("not begun", x.part(1, 6), 1);
    }

    private static void fullNoMore() {
        check.of("Terms 2: THINGS live, at most 60 (those that END make room)");
        PlugBoard x = filled("part just 1 span each;", 0, 30);
        x.enter();
        for (int i = 30; i < 60; i++) {
            x.ask(0);
        }
        check.due("full", x.ask(0), -4);
        check.due("leave", x.leave(), 30);
        check.due("room", x.ask(0), 30);
    }

    private static void madeIsCounted() {
        check.of("Terms 2: MADE of a PART: how often its making was begun, ever");
        PlugBoard x = Check.boardOf("part add 1 span each needs 1;part add 1 span each needs 2 2;part just 1 breaks 1;");
        check.due("broken", x.ask(0), -3);
        check.due("begun, too", x.part(0, 6) + 10 * x.part(1, 6) + 100 * x.part(2, 6), 111);
        check.due("ask", x.ask(0), 2);
        check.due("begun again", x.part(0, 6) + 10 * x.part(1, 6) + 100 * x.part(2, 6), 222);
        check.due("ask", x.ask(0), 4);
        check.due("2 is there", x.part(0, 6) + 10 * x.part(1, 6) + 100 * x.part(2, 6), 233);
        check.due("of all", x.count(4), 8);
    }

    private static void needsOfAllOnTheWay() {
        check.of("Terms 2: the THING lives, with the THINGS of its EAGER NEEDS (12 on the WAY, 4 needs each)");
        StringBuilder text = new StringBuilder();
        for (int p = 0; p < 11; p++) {
            int next = p + 1;
            text.append("part add 1 needs ").append(next).append(" 11 ").append(next).append(" 11;");
        }
        PlugBoard x = Check.boardOf(text + "part just 1;");
        check.due("ask", x.ask(0), 11);
        check.due("the last lives first", Check.things(x), "11@0 10@0 9@0 8@0 7@0 6@0 5@0 4@0 3@0 2@0 1@0 0@0");
        for (int t = 1; t < 12; t++) {
            for (int k = 0; k < 4; k++) {
                check.due("thing " + t + " has " + k, x.has(t, k), k % 2 == 0 ? t - 1 : 0);
            }
        }
        check.due("the last has none", x.thing(0, 4), 0);
        PlugBoard y = Check.boardOf("part add 1 span each lazy 2 needs 1 lazy 2 needs 1;part add 1 span each needs 2 lazy 2 needs 2;part just 1 span each;");
        check.due("ask", y.ask(0), 6);
        check.due("things", Check.things(y), "2@0 2@0 1@0 2@0 2@0 1@0 0@0");
        int[][] due = {{NONE, 2, NONE, 5}, {0, NONE, 1, NONE}, {3, NONE, 4, NONE}};
        for (int k = 0; k < 4; k++) {
            check.due("of 0", y.has(6, k), due[0][k]);
            check.due("of the first 1", y.has(2, k), due[1][k]);
            check.due("of the second 1", y.has(5, k), due[2][k]);
        }
    }

    private static void whyOfStandIns() {
        check.of("Terms 2: WHY (as they were to be MADE, not those that they stand for)");
        PlugBoard x = Check.boardOf("part just 1;part add 1 needs 0;part add 1 needs 3;part just 1 breaks 1;");
        x.stand(0, 2);
        check.due("broken", x.ask(1), -3);
        check.due("why", Check.why(x), "-3: 1 2 3");
        PlugBoard y = Check.boardOf("part just 1;part just 1 breaks 1;");
        y.stand(0, 1);
        check.due("broken", y.ask(0), -3);
        check.due("why", Check.why(y), "-3: 1");
    }

    private static void whatWasMadeStays() {
        check.of("Terms 2: If something can not be, all that needs it can not; THINGS that were made on the way stay");
        PlugBoard x = Check.boardOf("part add 1 needs 1 2 3;part just 1 span each;part add 1 needs 1 4 1;part just 1;part just 1 breaks 1;");
        check.due("broken", x.ask(0), -3);
        check.due("made ahead of it", Check.things(x), "1@0 1@0");
        check.due("what comes behind is not asked", x.part(3, 6), 0);
        check.due("why", Check.why(x), "-3: 0 2 4");
    }

    private static void valueOfNoThing() {
        check.of("9: NONE: there is none such");
        check.due("no things", new PlugBoard().value(0), NONE);
        PlugBoard x = filled("part just 1 span each;", 0, 2);
        for (int far : FAR) {
            check.due("value " + far, x.value(far), NONE);
        }
        check.due("2 of 2", x.value(2), NONE);
        check.due("acts", x.count(6), 2);
        check.due("the last", x.value(1), 1);
        x.leave();
        check.due("ended", x.value(0), NONE);
    }

    private static void valueIsKept() {
        check.of("9: 1 if it is there (then); Terms 2: reckoned when it is first asked for, then kept");
        PlugBoard x = Check.boardOf("part add 1 span each lazy 1;part just 5 span each;");
        x.ask(0);
        check.due("not there", x.thing(0, 2), 0);
        check.due("value", x.value(0), 1);
        check.due("there", x.thing(0, 2), 1);
        check.due("again", x.value(0), 1);
        check.due("nothing is asked again", x.part(1, 6), 1);
        check.due("it is an act, too", x.count(6), 3);
    }

    private static void valueWrapsAround() {
        check.of("Terms 2: As ints");
        String big = "part mul 512 needs 1 1 2;part just 512;part just 8;";
        PlugBoard x = Check.boardOf(big + "part add 1 needs 0 0;part add 0 needs 0 3;part sub -2 needs 0 0;part add -1 needs 0 0;part mul 999 needs 0 3;");
        // 512 * 512 * 512 * 8 is 2 to the 30th.
        int[] due = {1 << 30, 512, 8, Integer.MIN_VALUE + 1, (1 << 30) + Integer.MIN_VALUE + 1, Integer.MAX_VALUE - 1,
            Integer.MAX_VALUE, 0};
        due[7] = 999 * due[0] * due[3];
        for (int p = 0; p < 8; p++) {
            int thing = x.ask(p);
            check.due("value", x.value(thing), 1);
            check.due("of part " + p, x.thing(thing, 3), due[p]);
            check.due("worth", x.worth(p), due[p]);
        }
    }

    private static void valueOfTheLeast() {
        check.of("Terms 2: SUB: it less all; MAX, MIN: the greatest, least of it and all (at the ends of ints)");
        PlugBoard x = Check.boardOf("part mul 512 needs 1 1 2;part just 512;part just 8;"
                + "part add 0 needs 0 0;part sub -1 needs 3;part sub 0 needs 3;part sub -1 needs 0 0 2;"
                + "part max -999 needs 3;part min 999 needs 4;part max 999 needs 4;part min -999 needs 3;");
        int[] due = {1 << 30, 512, 8, Integer.MIN_VALUE, Integer.MAX_VALUE, Integer.MIN_VALUE, Integer.MAX_VALUE - 8, -999, 999,
            Integer.MAX_VALUE, Integer.MIN_VALUE};
        for (int p = 0; p < due.length; p++) {
            int thing = x.ask(p);
            x.value(thing);
            check.due("of part " + p, x.thing(thing, 3), due[p]);
        }
    }

    private static void valueWithoutNeeds() {
        check.of("Terms 2: ADD: it and all; MUL: all multiplied; MAX, MIN; SUB (of no needs, of one, of four)");
        String[] acts = {"add", "mul", "max", "min", "sub"};
        int[] one = {-5 + 7, -35, 7, -5, -12};
        int[] four = {-5 + 7 + 7 - 9 + 2, -5 * 7 * 7 * -9 * 2, 7, -9, -5 - 7 - 7 + 9 - 2};
        for (int a = 0; a < acts.length; a++) {
            String others = "part just 7;part just -9;part just 2;";
            check.due(acts[a] + " alone", Check.boardOf("part " + acts[a] + " -5;").worth(0), -5);
            check.due(acts[a] + " of one", Check.boardOf("part " + acts[a] + " -5 needs 1;" + others).worth(0), one[a]);
            check.due(acts[a] + " of four", Check.boardOf("part " + acts[a] + " -5 needs 1 1 2 lazy 3;" + others).worth(0), four[a]);
        }
    }

    private static void valueOfJust() {
        check.of("Terms 2: JUST: the NUMBER. JUST asks for no NEEDS");
        PlugBoard x = Check.boardOf("part just -999 needs 1 lazy 2 0;part just 7;part just 8 breaks 1;");
        check.due("eager ones are made, though", x.ask(0), 1);
        check.due("value", x.value(1), 1);
        check.due("number", x.thing(1, 3), -999);
        check.due("no need's value", x.thing(0, 2), 0);
        check.due("lazy ones are not made", x.count(2), 2);
    }

    private static void valueRingOfItself() {
        check.of("Terms 2: If the VALUE of a THING is asked for while that very one is reckoned: RING (its PART once more)");
        PlugBoard x = Check.boardOf("part add 1 lazy 0;part add 1 span each lazy 0 1;");
        x.ask(0);
        check.due("ring", x.value(0), -2);
        check.due("why", Check.why(x), "-2: 0 0");
        check.due("no value", x.thing(0, 2), 0);
        check.due("it is its own thing from then on", x.has(0, 0), 0);
        check.due("again", x.value(0), -2);
        x.ask(1);
        check.due("behind another", x.value(1), -2);
        check.due("why", Check.why(x), "-2: 1 0 0");
        check.due("another thing of it is no ring", x.thing(1, 4), 1);
    }

    private static void valueRingOfSixty() {
        check.of("Terms 2: WHY then: PARTS of THINGS whose VALUES are reckoned (all 60)");
        PlugBoard x = Check.boardOf("part add 1 span each lazy 0;part just 1;");
        x.ask(0);
        check.due("full", x.value(0), -4);
        check.due("how many", x.count(9), 61);
        check.due("things", x.count(2), 60);
        check.due("values", x.count(3), 0);
        check.due("the first has the second", x.has(0, 0), 1);
        check.due("the last has none", x.has(59, 0), NONE);
        check.due("again", x.value(0), -4);
        check.due("how many", x.count(9), 61);
        check.due("from the middle", x.value(30), -4);
        check.due("how many", x.count(9), 31);
        check.due("the last of it", x.why(30), 0);
        check.due("no more", x.why(31), NONE);
    }

    private static void valueOfLongWays() {
        check.of("Terms 2: WHY then: those that were ASKED, to that which it comes of");
        StringBuilder text = new StringBuilder();
        for (int p = 0; p < 11; p++) {
            text.append("part add 1 span each lazy ").append(p + 1).append(';');
        }
        PlugBoard x = Check.boardOf(text + "part add 1 span each breaks 5 lazy 0;");
        x.ask(0);
        check.due("broken", x.value(0), -3);
        check.due("59 reckoned, one to be made", x.count(9), 60);
        check.due("the last", x.why(59), 11);
        check.due("the last but one", x.why(58), 10);
        check.due("then full", x.value(0), -4);
        check.due("60 reckoned, one to be made", x.count(9), 61);
        check.due("the last", x.why(60), 0);
    }

    /** 59 things that are reckoned, one by the other; then a ring of 11 parts, the first of them twice. */
    private static void whyAtItsLongest() {
        check.of("Terms 2: WHY then: PARTS of THINGS whose VALUES are reckoned, then those that were ASKED (as many as can be)");
        StringBuilder text = new StringBuilder("part add 1 span each lazy 0 needs 1;");
        for (int p = 1; p < 11; p++) {
            text.append("part add 1 span each needs ").append((p + 1) % 11).append(';');
        }
        PlugBoard x = Check.boardOf(text + "part add 1 lazy 0;");
        check.due("the first", x.ask(11), 0);
        x.stand(1, 11);
        x.enter();
        check.due("one in the scope", x.ask(0), 1);
        check.due("all others on the board", x.value(0), -4);
        check.due("leave", x.leave(), 1);
        check.due("things", x.count(2), 59);
        x.stand(1, 1);
        check.due("ring", x.value(0), -2);
        check.due("how many", x.count(9), 71);
        check.due("the first that is reckoned", x.why(0), 11);
        for (int k = 1; k < 71; k++) {
            check.due("why " + k, x.why(k), k <= 58 || k == 70 ? 0 : k - 59);
        }
        check.due("no more", x.why(71), NONE);
        check.due("undo", x.undo() >= 0, true);
        check.due("again", x.value(0), -2);
        check.due("how many", x.count(9), 71);
    }

    private static void whyWithoutWhatIsReckoned() {
        check.of("Terms 2: WHY then: PARTS of THINGS whose VALUES are reckoned (not those that are there)");
        PlugBoard x = Check.boardOf("part add 1 needs 1 2;part add 1 lazy 3;part add 1 lazy 3 4;part just 1;part just 1 breaks 1;");
        x.ask(0);
        check.due("broken", x.value(2), -3);
        check.due("why", Check.why(x), "-3: 0 2 4");
        check.due("what was reckoned stays", x.count(3), 2);
        check.due("then it can", x.value(2), 1);
        PlugBoard y = Check.boardOf("part add 1 lazy 1 2 0;part just 1;part just 1;");
        y.ask(0);
        check.due("ring", y.value(0), -2);
        check.due("why", Check.why(y), "-2: 0 0");
    }

    private static void lazyIsAskedOnce() {
        check.of("Terms 2: a LAZY one is ASKED then, if it was not yet, and is its THING from then on");
        PlugBoard x = Check.boardOf("part add 1 lazy 1 2 3;part just 1 span each;part just 1 breaks 1;part just 1 span each;");
        x.ask(0);
        check.due("none yet", x.thing(0, 4), 0);
        check.due("broken", x.value(0), -3);
        check.due("the first is there", x.has(0, 0), 1);
        check.due("the second is not", x.has(0, 1), NONE);
        check.due("the third was not asked", x.part(3, 6), 0);
        check.due("value", x.value(0), 1);
        check.due("the first was not asked again", x.part(1, 6), 1);
        check.due("the first is the same", x.has(0, 0), 1);
        check.due("all", x.thing(0, 4), 3);
    }

    private static void lazyWithNothingOnTheWay() {
        check.of("Terms 2: in the SCOPE of the THING, nothing being on the WAY");
        PlugBoard x = Check.boardOf("part add 1 span each lazy 1;part just 2 span each needs 2;part just 3 span each lazy 0;");
        x.enter();
        x.ask(0);
        x.enter();
        check.due("value", x.value(0), 1);
        check.due("in scope 1", Check.things(x), "0@1 2@1 1@1");
        PlugBoard y = Check.boardOf("part add 1 span each lazy 1;part add 2 needs 2;part just 3 span each;");
        y.ask(0);
        y.ask(0);
        check.due("value", y.value(0), 1);
        check.due("value of the other", y.value(1), 1);
        check.due("the same lazy one", y.has(0, 0), y.has(1, 0));
        PlugBoard z = Check.boardOf("part add 1 lazy 1;part add 2 span each needs 2 lazy 2;part just 3 span each lazy 0 1;");
        z.ask(0);
        check.due("value", z.value(0), 1);
        check.due("sum", z.thing(0, 3), 1 + 2 + 3 + 3);
    }
}
