import java.util.ArrayList;
import java.util.List;

/** The edges that Terms 3 (ACTS) and promises 10, 28, 29 name, sentence by sentence. */
public final class EdgeKeptTest {
    private static final int NONE = PlugBoard.NONE;
    private static final String PARTS = "part add 1 needs 1 lazy 2;part just 2 span scope bad;part just 3 span each breaks 2;part add 1 needs 3;";
    private static final Check check = new Check();

    public static void main(String[] args) {
        undoOfNone();
        undoLatestEight();
        undoEachAct();
        undoLeaveOfMany();
        undoOfAllNeeds();
        undoOfTheTwelfth();
        undoWhatCameToNothing();
        undoAllKinds();
        undoAroundTheEnd();
        undoLeavesTheText();
        noActs();
        readLeavesNone();
        againLeavesNone();
        imageOfAnother();
        imageOfAll();
        imageLeavesWhatCanBeUndone();
        imageOverAnother();
        againOfNone();
        againOfEach();
        againAsOften();
        againAfterReading();
        check.end();
    }

    private static void same(String what, String one, String other) {
        check.due(what, Picture.difference(one, other), "");
    }

    private static void undoOfNone() {
        check.of("10: NONE: none can");
        PlugBoard x = new PlugBoard();
        check.due("new", x.undo(), NONE);
        x.enter();
        check.due("one", x.undo(), 0);
        check.due("none", x.undo(), NONE);
        check.due("none still", x.undo(), NONE);
        check.due("acts", x.count(6), 0);
        x.leave();
        check.due("one more", x.count(6), 1);
    }

    private static void undoLatestEight() {
        check.of("Terms 3: ACTS that can be UNDONE, the latest 8; 10: how many more can be");
        for (int acts = 0; acts <= 20; acts++) {
            PlugBoard x = Check.boardOf("part just 1 span each;");
            for (int i = 0; i < acts; i++) {
                x.ask(0);
            }
            int can = Math.min(acts, 8);
            check.due("can", x.count(6), can);
            for (int left = can - 1; left >= 0; left--) {
                check.due("undo of " + acts, x.undo(), left);
                check.due("things", x.count(2), acts - can + left);
                check.due("made", x.part(0, 6), acts - can + left);
                check.due("can", x.count(6), left);
            }
            check.due("none of " + acts, x.undo(), NONE);
            check.due("things", x.count(2), acts - can);
        }
    }

    private static void undoEachAct() {
        check.of("10: The latest ACT is UNDONE (MADE, what is told, too)");
        List<Picture.Run> acts = new ArrayList<>();
        acts.add(PlugBoard::enter);
        acts.add(x -> x.ask(0));
        acts.add(x -> x.value(1));
        acts.add(x -> x.stand(1, 2));
        acts.add(x -> x.stand(1, 0));
        acts.add(x -> x.ask(3));
        acts.add(x -> x.value(0));
        acts.add(x -> x.stand(1, 1));
        acts.add(PlugBoard::leave);
        acts.add(PlugBoard::leave);
        acts.add(x -> x.ask(2));
        for (int many = 0; many < acts.size(); many++) {
            int ahead = many;
            Picture.Run before = x -> {
                Check.read(x, PARTS);
                for (int i = 0; i < ahead; i++) {
                    acts.get(i).on(x);
                }
            };
            Picture.Run undone = x -> {
                before.on(x);
                acts.get(ahead).on(x);
                x.undo();
            };
            same("act " + many, Picture.now(before), Picture.now(undone));
        }
    }

    /** Things of two scopes in turn, each with what it needs, some with values: 60 in all. */
    private static void many(PlugBoard x) {
        Check.read(x, "part just 4 span each;part add 1 span each needs 0 lazy 0;part just 3 bad;part sub 9 needs 2 0 2 lazy 1;part add 8 span scope needs 0 1 3 2;");
        x.ask(0);
        x.ask(1);
        x.enter();
        x.ask(4);
        x.ask(3);
        x.value(2);
        x.stand(0, 2);
        x.ask(1);
        x.enter();
        x.ask(4);
        x.value(x.ask(1));
        for (int i = 0; i < 40 && x.count(2) < 58; i++) {
            x.ask(1);
        }
    }

    private static void undoLeaveOfMany() {
        check.of("10: The latest ACT is UNDONE (leave() of many)");
        String before = Picture.now(EdgeKeptTest::many);
        for (int leaves = 1; leaves <= 3; leaves++) {
            int times = leaves;
            same("left " + leaves, before, Picture.now(x -> {
                many(x);
                for (int i = 0; i < times; i++) {
                    x.leave();
                }
                for (int i = 0; i < times; i++) {
                    x.undo();
                }
            }));
            same("left and made anew " + leaves, before, Picture.now(x -> {
                many(x);
                x.image(0);
                for (int i = 0; i < times; i++) {
                    x.leave();
                }
                x.ask(1);
                x.ask(0);
                x.value(0);
                x.ask(4);
                x.again(0);
            }));
        }
    }

    /** 60 things with two needs each or none; then 60 others take their numbers. */
    private static void undoOfAllNeeds() {
        check.of("10, 29: all THINGS have their NEEDS again (60 of them)");
        Picture.Run needy = x -> {
            Check.read(x, "part just 4 span each;part add 1 span each needs 0 lazy 0 needs 0;part add 1 span each lazy 2;");
            for (int i = 0; i < 20; i++) {
                x.ask(1);
            }
        };
        String before = Picture.now(needy);
        same("undone", before, Picture.now(x -> {
            needy.on(x);
            x.leave();
            x.ask(2);
            x.value(0);
            for (int i = 0; i < 3; i++) {
                x.undo();
            }
        }));
        same("kept", before, Picture.now(x -> {
            needy.on(x);
            x.image(1);
            x.leave();
            x.ask(2);
            x.value(0);
            x.again(1);
        }));
        PlugBoard x = new PlugBoard();
        needy.on(x);
        x.leave();
        x.ask(2);
        x.value(0);
        check.due("the last one's lazy need is not there", x.has(59, 0), NONE);
        check.due("the last but one's is", x.has(58, 0), 59);
        x.undo();
        x.undo();
        x.undo();
        check.due("the last one's first", x.has(59, 0), 57);
        check.due("the last one's third", x.has(59, 2), 58);
    }

    private static void undoOfTheTwelfth() {
        check.of("10: (MADE, what is told, too), of the 12th PART");
        PlugBoard x = Check.boardOf("part just 1;".repeat(11) + "part just 1 span each bad;");
        x.stand(11, 0);
        x.leave();
        check.due("what was stood for is no more", x.stands(11, 0), 11);
        check.due("none", x.count(5), 0);
        x.ask(11);
        check.due("made", x.part(11, 6), 1);
        x.leave();
        check.due("ended", x.ended(0, true), 11);
        x.undo();
        check.due("not ended", x.ended(0, true), NONE);
        x.undo();
        check.due("not made", x.part(11, 6), 0);
        x.undo();
        check.due("stood for", x.stands(11, 0), 0);
        x.undo();
        check.due("not any more", x.stands(11, 0), 11);
    }

    private static void undoWhatCameToNothing() {
        check.of("Terms 3: (ask(), value() also if they came to nothing)");
        PlugBoard x = Check.boardOf("part just 1 breaks 1;part add 1 needs 1;part add 1 lazy 2;part just 1 span each;");
        check.due("broken", x.ask(0), -3);
        check.due("an act", x.count(6), 1);
        check.due("ring", x.ask(1), -2);
        check.due("an act", x.count(6), 2);
        x.ask(2);
        check.due("ring of values", x.value(0), -2);
        check.due("an act", x.count(6), 4);
        check.due("why", Check.why(x), "-2: 2 2");
        x.undo();
        check.due("why of the one ahead", Check.why(x), "-2: 1 1");
        check.due("its lazy one", x.has(0, 0), NONE);
        x.undo();
        x.undo();
        check.due("why of the one ahead", Check.why(x), "-3: 0");
        check.due("undo", x.undo(), 0);
        check.due("no why", Check.why(x), "0:");
        check.due("not begun", x.count(4), 0);
        check.due("it breaks again", x.ask(0), -3);
        PlugBoard y = Check.boardOf("part just 1 span each;");
        for (int i = 0; i < 60; i++) {
            y.ask(0);
        }
        y.enter();
        check.due("full", y.ask(0), -4);
        check.due("it is an act", y.undo(), 7);
        check.due("the scope is there", y.count(1), 1);
        check.due("why", Check.why(y), "0:");
    }

    private static void undoAllKinds() {
        check.of("Terms 3: enter(), leave(), stand(), ask(), value(), that were not NONE, not false");
        PlugBoard x = Check.boardOf("part just 1;part just 2;");
        x.enter();
        check.due("enter", x.count(6), 1);
        x.leave();
        check.due("leave", x.count(6), 2);
        x.stand(0, 1);
        check.due("stand", x.count(6), 3);
        x.stand(0, 0);
        check.due("stand by none", x.count(6), 4);
        x.ask(0);
        check.due("ask", x.count(6), 5);
        x.ask(0);
        check.due("ask of what is there", x.count(6), 6);
        x.value(0);
        check.due("value", x.count(6), 7);
        x.value(0);
        check.due("value that is there", x.count(6), 8);
        x.leave();
        check.due("no more than 8", x.count(6), 8);
        for (int i = 0; i < 8; i++) {
            x.undo();
        }
        check.due("back to the first of the latest 8", x.count(1), 1);
    }

    private static void undoAroundTheEnd() {
        check.of("Terms 3: the latest 8 (again and again, some undone between)");
        for (int undone = 1; undone <= 8; undone++) {
            PlugBoard x = Check.boardOf("part just 1 span each;");
            int things = 0;
            for (int round = 0; round < 4; round++) {
                for (int i = 0; i < 11; i++) {
                    x.ask(0);
                }
                for (int i = 0; i < undone; i++) {
                    check.due("undo", x.undo(), 7 - i);
                }
                things += 11 - undone;
                check.due("things", x.count(2), things);
                check.due("can", x.count(6), 8 - undone);
            }
        }
        PlugBoard y = Check.boardOf("part just 1 span each;");
        for (int i = 0; i < 40; i++) {
            y.ask(0);
            y.ask(0);
            y.undo();
        }
        check.due("things", y.count(2), 40);
        check.due("can", y.count(6), 8 - 1);
        for (int i = 6; i >= 0; i--) {
            check.due("undo", y.undo(), i);
            check.due("things", y.count(2), 33 + i);
        }
        check.due("none", y.undo(), NONE);
    }

    private static void undoLeavesTheText() {
        check.of("10: The latest ACT is UNDONE (what was typed behind it is none)");
        PlugBoard x = Check.boardOf(PARTS);
        x.enter();
        Check.read(x, "part just 1 breaks 10;");
        Check.type(x, "part just 4;");
        x.undo();
        check.due("bytes", x.count(7), 12);
        check.due("fault", x.fault(false), 2);
        check.due("depth", x.count(1), 0);
        check.due("read", x.read(), 1);
        check.due("number", x.part(0, 1), 4);
    }

    private static void noActs() {
        check.of("Terms 3: that were not NONE, not false");
        PlugBoard x = Check.boardOf("part just 1;");
        for (int i = 0; i < 4; i++) {
            x.enter();
        }
        x.enter();
        x.stand(0, 0);
        x.stand(0, 1);
        x.stand(1, 0);
        x.ask(1);
        x.ask(-1);
        x.value(0);
        x.value(-1);
        x.type(Check.eight("part", 0));
        x.read();
        x.image(0);
        x.image(3);
        x.again(1);
        check.due("acts", x.count(6), 4);
        check.due("the latest is the 4th enter", x.undo(), 3);
        check.due("depth", x.count(1), 3);
    }

    private static void readLeavesNone() {
        check.of("Terms 3: read() without a FAULT leaves none");
        PlugBoard x = Check.boardOf("part just 1 span each;");
        for (int i = 0; i < 10; i++) {
            x.ask(0);
        }
        Check.read(x, "part");
        check.due("with a fault all stay", x.count(6), 8);
        check.due("undo", x.undo(), 7);
        check.due("things", x.count(2), 9);
        x.read();
        check.due("without a fault none", x.count(6), 0);
        check.due("undo", x.undo(), NONE);
        Check.read(x, "part just 1 span each;");
        check.due("none either", x.undo(), NONE);
        x.ask(0);
        check.due("one then", x.undo(), 0);
        check.due("none of those ahead of it", x.undo(), NONE);
    }

    private static void againLeavesNone() {
        check.of("Terms 3: again() leaves none");
        PlugBoard x = Check.boardOf("part just 1 span each;");
        x.ask(0);
        x.image(0);
        x.ask(0);
        check.due("of another leaves all", x.again(1), false);
        check.due("acts", x.count(6), 2);
        check.due("of one leaves none", x.again(0), true);
        check.due("acts", x.count(6), 0);
        check.due("undo", x.undo(), NONE);
        x.ask(0);
        check.due("one then", x.undo(), 0);
        check.due("none of those ahead of it", x.undo(), NONE);
        check.due("things", x.count(2), 1);
    }

    private static void imageOfAnother() {
        check.of("28: is kept as k, 0 to 2: true; false for another k");
        PlugBoard x = new PlugBoard();
        for (int k = 0; k <= 2; k++) {
            check.due("image " + k, x.image(k), true);
        }
        for (int k : new int[] {Integer.MIN_VALUE, -1000, -2, -1, 3, 4, 1000, Integer.MAX_VALUE}) {
            check.due("image " + k, x.image(k), false);
            check.due("again " + k, x.again(k), false);
        }
    }

    private static void rich(PlugBoard x) {
        Check.read(x, PARTS);
        x.ask(1);
        x.leave();
        x.enter();
        x.ask(0);
        x.value(1);
        x.stand(1, 0);
        x.ask(3);
        Check.read(x, "part just 1 breaks 10;");
        Check.type(x, "part just 77;");
    }

    private static void imageOfAll() {
        check.of("28: All that there is (THE TEXT, the FAULT, what is told, too)");
        String due = Picture.now(EdgeKeptTest::rich);
        for (int k = 0; k <= 2; k++) {
            int which = k;
            same("image " + k, due, Picture.now(x -> {
                rich(x);
                x.image(which);
                x.again(which);
            }));
            same("image " + k + " in another state", due, Picture.now(x -> {
                rich(x);
                x.image(which);
                x.enter();
                x.ask(2);
                x.ask(2);
                x.value(0);
                x.leave();
                x.leave();
                Check.type(x, "part just 8");
                x.read();
                Check.type(x, "xyz");
                x.again(which);
            }));
        }
        same("of a new object", Picture.of(x -> x.image(0)), Picture.of(x -> {
            x.image(0);
            rich(x);
            x.again(0);
        }));
    }

    private static void imageLeavesWhatCanBeUndone() {
        check.of("28: but for what can be UNDONE");
        PlugBoard x = new PlugBoard();
        rich(x);
        int acts = x.count(6);
        x.image(0);
        check.due("image leaves the acts", x.count(6), acts);
        check.due("undo", x.undo(), acts - 1);
        x.again(0);
        check.due("they are not kept", x.count(6), 0);
        check.due("undo", x.undo(), NONE);
    }

    private static void imageOverAnother() {
        check.of("28: is kept as k (the latest)");
        PlugBoard x = Check.boardOf("part just 1 span each;");
        for (int k = 0; k <= 2; k++) {
            x.ask(0);
            x.image(k);
        }
        x.ask(0);
        x.image(1);
        x.leave();
        int[] due = {1, 4, 3};
        for (int k = 0; k <= 2; k++) {
            check.due("again " + k, x.again(k), true);
            check.due("things of " + k, x.count(2), due[k]);
        }
    }

    private static void againOfNone() {
        check.of("29: false if there is none such");
        PlugBoard x = new PlugBoard();
        for (int k = 0; k <= 2; k++) {
            check.due("not kept: " + k, x.again(k), false);
        }
        x.image(1);
        check.due("0 is not kept", x.again(0), false);
        check.due("1 is", x.again(1), true);
        check.due("2 is not kept", x.again(2), false);
        check.due("3 can not be", x.again(3), false);
        check.due("-1 can not be", x.again(-1), false);
    }

    private static void againOfEach() {
        check.of("29: All is as it was kept as k: true");
        PlugBoard x = new PlugBoard();
        x.image(0);
        Check.read(x, "part just 5;");
        x.image(1);
        Check.type(x, "part just 6;");
        x.enter();
        x.image(2);
        x.read();
        check.due("0", x.again(0), true);
        check.due("no parts", x.count(0), 0);
        check.due("no bytes", x.count(7), 0);
        check.due("2", x.again(2), true);
        check.due("depth", x.count(1), 1);
        check.due("bytes", x.count(7), 12);
        check.due("number", x.part(0, 1), 5);
        check.due("1", x.again(1), true);
        check.due("depth", x.count(1), 0);
        check.due("bytes", x.count(7), 0);
        check.due("number", x.part(0, 1), 5);
    }

    private static void againAsOften() {
        check.of("29: All is as it was kept (what is done then leaves the image alone)");
        PlugBoard x = Check.boardOf("part just 1 span each;part add 1 lazy 0;");
        x.ask(1);
        x.image(2);
        for (int i = 0; i < 10; i++) {
            check.due("again", x.again(2), true);
            check.due("things", x.count(2), 1);
            check.due("values", x.count(3), 0);
            check.due("its lazy one", x.has(0, 0), NONE);
            check.due("made", x.count(4), 1);
            x.value(0);
            x.ask(0);
            x.enter();
            x.stand(0, 1);
            check.due("things then", x.count(2), 3);
        }
    }

    private static void againAfterReading() {
        check.of("29: All is as it was kept (PARTS, too)");
        PlugBoard x = Check.boardOf("part add 1 needs 1;part add 1 needs 0;");
        x.image(0);
        check.due("loop", x.loop(NONE), 2);
        Check.read(x, "part just 1;part just 1;part just 1;");
        check.due("loop of others", x.loop(NONE), 0);
        check.due("again", x.again(0), true);
        check.due("parts", x.count(0), 2);
        check.due("loop", x.loop(NONE), 2);
        check.due("looser", Check.looser(x), "1: 0");
        check.due("deep", x.deep(), NONE);
    }
}
