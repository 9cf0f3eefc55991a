/** Promises 10, 28, 29: undo, image, again. */
public final class KeepingTest {
    private static final int NONE = PlugBoard.NONE;
    private static final Check check = new Check();

    public static void main(String[] args) {
        undoing();
        latestEight();
        undoingWhatIsTold();
        refusedAreNoActs();
        images();
        imagesAndUndo();
        imagesOutlastReading();
        check.end();
    }

    private static void undoing() {
        PlugBoard x = Check.boardOf("part just 5;part add 1 lazy 0;");
        x.enter();
        x.stand(0, 1);
        x.ask(0);
        x.value(0);
        x.leave();
        check.due("acts", x.count(6), 5);
        check.due("undo leave", x.undo(), 4);
        check.due("depth", x.count(1), 1);
        check.due("stood for", x.count(5), 1);
        check.due("undo value", x.undo(), 3);
        check.due("values", x.count(3), 0);
        check.due("lazy one", x.has(0, 0), NONE);
        check.due("things", x.count(2), 1);
        check.due("undo ask", x.undo(), 2);
        check.due("things", x.count(2), 0);
        check.due("made", x.count(4), 0);
        check.due("undo stand", x.undo(), 1);
        check.due("stands", x.stands(0, 1), 0);
        check.due("undo enter", x.undo(), 0);
        check.due("depth", x.count(1), 0);
        check.due("none can", x.undo(), NONE);
        check.due("parts", x.count(0), 2);
    }

    private static void latestEight() {
        PlugBoard x = Check.boardOf("part just 5 span each;");
        for (int i = 0; i < 11; i++) {
            x.ask(0);
        }
        check.due("acts", x.count(6), 8);
        for (int left = 7; left >= 0; left--) {
            check.due("undo", x.undo(), left);
            check.due("things", x.count(2), left + 3);
        }
        check.due("none can", x.undo(), NONE);
        check.due("things", x.count(2), 3);
        x.ask(0);
        check.due("acts", x.count(6), 1);
        check.due("undo", x.undo(), 0);
        check.due("made", x.part(0, 6), 3);
    }

    private static void undoingWhatIsTold() {
        PlugBoard x = Check.boardOf("part add 1 needs 0;part just 1 breaks 1;part just 2 bad;part add 1 lazy 3;");
        x.ask(0);
        x.ask(1);
        check.due("why", Check.why(x), "-3: 1");
        check.due("undo", x.undo(), 1);
        check.due("why before", Check.why(x), "-2: 0 0");
        check.due("made", x.part(1, 6), 0);
        check.due("undo", x.undo(), 0);
        check.due("no why", Check.why(x), "0:");
        x.ask(2);
        x.leave();
        x.ask(3);
        x.value(0);
        x.leave();
        check.due("ended", Check.ended(x, false), "3");
        check.due("undo leave", x.undo(), 4);
        check.due("ended before", Check.ended(x, false), "2");
        check.due("badly before", x.count(8), 1);
        check.due("why", Check.why(x), "-2: 3 3");
        check.due("undo value", x.undo(), 3);
        check.due("no why", Check.why(x), "0:");
        x.undo();
        check.due("undo leave", x.undo(), 1);
        check.due("none ended", Check.ended(x, false), "");
        check.due("badly", x.count(8), 0);
    }

    private static void refusedAreNoActs() {
        PlugBoard x = Check.boardOf("part just 5;part just 1 breaks 1;");
        x.ask(2);
        x.value(0);
        x.stand(0, 0);
        x.stand(0, 9);
        x.would(0, 0);
        x.worth(0);
        x.image(0);
        Check.type(x, "abc");
        check.due("no acts", x.count(6), 0);
        x.ask(1);
        check.due("came to nothing, but is one", x.count(6), 1);
        x.leave();
        check.due("leave of nothing is one", x.count(6), 2);
        x.undo();
        check.due("undo is none", x.count(6), 1);
    }

    private static void images() {
        PlugBoard x = Check.boardOf("part just 5 bad;part add 1 needs 1;");
        check.due("no image yet", x.again(0), false);
        check.due("image(3)", x.image(3), false);
        check.due("image(-1)", x.image(-1), false);
        check.due("again(3)", x.again(3), false);
        check.due("again(-1)", x.again(-1), false);
        x.ask(0);
        x.leave();
        x.enter();
        x.ask(0);
        x.value(0);
        x.ask(1);
        x.stand(0, 1);
        Check.read(x, "part x");
        Check.type(x, "part just 1;");
        check.due("image", x.image(2), true);
        x.image(0);
        Check.read(x, "part just 2;part just 3;part just 4;");
        x.enter();
        x.enter();
        x.ask(0);
        check.due("read", x.count(0), 4);
        check.due("again", x.again(2), true);
        int[] due = {2, 1, 1, 1, 3, 1, 0, 12, 1, 2, -2};
        for (int what = 0; what < due.length; what++) {
            check.due("again count(" + what + ")", x.count(what), due[what]);
        }
        check.due("fault", x.fault(false), 1);
        check.due("place", x.fault(true), 5);
        check.due("why", Check.why(x), "-2: 1 1");
        check.due("ended", Check.ended(x, true), "0");
        check.due("value", x.thing(0, 3), 5);
        check.due("stands", x.stands(0, 1), 1);
        check.due("loop of those parts", Check.loop(x), "1");
        check.due("text", x.read(), 1);
        check.due("again as often as one likes", x.again(2), true);
        check.due("text again", x.count(7), 12);
        check.due("image 1 was not kept", x.again(1), false);
    }

    private static void imagesAndUndo() {
        PlugBoard x = Check.boardOf("part just 5;");
        x.ask(0);
        x.image(0);
        check.due("image leaves acts", x.count(6), 1);
        x.enter();
        check.due("again of none leaves acts", x.again(1), false);
        check.due("acts", x.count(6), 2);
        check.due("undo", x.undo(), 1);
        check.due("again", x.again(0), true);
        check.due("none can", x.undo(), NONE);
        check.due("things", x.count(2), 1);
        x.enter();
        check.due("acts anew", x.undo(), 0);
        x.leave();
        check.due("the image is not touched", x.again(0), true);
        check.due("things", x.count(2), 1);
        x.enter();
        x.image(0);
        x.again(0);
        check.due("kept over", x.count(1), 1);
    }

    private static void imagesOutlastReading() {
        PlugBoard x = Check.boardOf("part just 5;");
        x.image(1);
        Check.read(x, "part just 1;part just 2;");
        check.due("again", x.again(1), true);
        check.due("parts", x.count(0), 1);
        check.due("number", x.part(0, 1), 5);
    }
}
