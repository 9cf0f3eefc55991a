/** Promises 5 to 7, 16, 18 and the counts of them: enter, leave, stand, stands, ended. */
public final class ScopeTest {
    private static final int NONE = PlugBoard.NONE;
    private static final Check check = new Check();

    public static void main(String[] args) {
        entering();
        leaving();
        leavingTheBoard();
        numbersCloseUp();
        standing();
        standingInScopes();
        check.end();
    }

    private static void entering() {
        PlugBoard x = new PlugBoard();
        for (int depth = 1; depth <= 4; depth++) {
            check.due("enter", x.enter(), depth);
            check.due("depth", x.count(1), depth);
        }
        check.due("enter a 5th", x.enter(), NONE);
        check.due("depth stays", x.count(1), 4);
        check.due("a refused enter is no act", x.count(6), 4);
        for (int depth = 3; depth >= 0; depth--) {
            check.due("leave", x.leave(), 0);
            check.due("depth", x.count(1), depth);
        }
        check.due("leave the board", x.leave(), 0);
        check.due("depth is still 0", x.count(1), 0);
    }

    private static void leaving() {
        PlugBoard x = Check.boardOf("part just 1 span scope bad;part add 1 span each needs 0;part just 3;part just 4 span scope;");
        x.ask(0);
        x.enter();
        x.ask(1);
        x.ask(2);
        x.ask(3);
        x.ask(1);
        check.due("things", Check.things(x), "0@0 0@1 1@1 2@0 3@1 1@1");
        check.due("leave", x.leave(), 4);
        check.due("ended", Check.ended(x, false), "1 3 1 0");
        check.due("ended badly", Check.ended(x, true), "0");
        check.due("how many badly", x.count(8), 1);
        check.due("ended above", x.ended(4, false), NONE);
        check.due("ended below", x.ended(-1, false), NONE);
        check.due("badly above", x.ended(1, true), NONE);
        check.due("badly below", x.ended(-1, true), NONE);
        check.due("things after", Check.things(x), "0@0 2@0");
        x.enter();
        check.due("ended stays till a leave", Check.ended(x, false), "1 3 1 0");
        check.due("leave nothing", x.leave(), 0);
        check.due("ended nothing", x.ended(0, false), NONE);
        check.due("badly none", x.count(8), 0);
    }

    private static void leavingTheBoard() {
        PlugBoard x = Check.boardOf("part just 1 bad;part add 1 needs 0;part just 2 span each bad;");
        x.ask(1);
        x.ask(2);
        x.stand(0, 1);
        check.due("leave the board", x.leave(), 3);
        check.due("ended", Check.ended(x, false), "2 1 0");
        check.due("ended badly", Check.ended(x, true), "2 0");
        check.due("badly", x.count(8), 2);
        check.due("things", x.count(2), 0);
        check.due("depth", x.count(1), 0);
        check.due("stood for", x.count(5), 0);
        check.due("parts stay", x.count(0), 3);
        check.due("made stays", x.count(4), 3);
        check.due("asked anew", x.ask(0), 0);
        check.due("made once more", x.part(0, 6), 2);
    }

    private static void numbersCloseUp() {
        PlugBoard x = Check.boardOf("part just 1 span scope;part add 1 needs 2 lazy 3;part just 3;part just 7;");
        x.enter();
        x.ask(0);
        check.due("board's thing", x.ask(1), 2);
        x.value(2);
        check.due("things", Check.things(x), "0@1 2@0 1@0 3@0");
        check.due("leave", x.leave(), 1);
        check.due("things after", Check.things(x), "2@0 1@0 3@0");
        check.due("its need", x.has(1, 0), 0);
        check.due("its lazy need", x.has(1, 1), 2);
        check.due("its value", x.thing(1, 3), 11);
        check.due("asked again", x.ask(1), 1);
    }

    private static void standing() {
        PlugBoard x = Check.boardOf("part just 1;part just 2;part just 3;");
        check.due("by itself already", x.stand(0, 0), false);
        check.due("none such", x.stand(3, 0), false);
        check.due("none such by", x.stand(0, 3), false);
        check.due("below", x.stand(-1, 0), false);
        check.due("below by", x.stand(0, -1), false);
        check.due("no acts", x.count(6), 0);
        check.due("stand", x.stand(0, 1), true);
        check.due("already so", x.stand(0, 1), false);
        check.due("another", x.stand(0, 2), true);
        check.due("stood for", x.count(5), 1);
        check.due("stand 1", x.stand(1, 0), true);
        check.due("stood for both", x.count(5), 2);
        check.due("stands", x.stands(0, 0), 2);
        check.due("not asked on", x.stands(1, 0), 0);
        check.due("by none", x.stand(0, 0), true);
        check.due("stands itself", x.stands(0, 0), 0);
        check.due("acts", x.count(6), 4);
        check.due("stands of no part", x.stands(3, 0), NONE);
        check.due("stands in no scope", x.stands(0, 1), NONE);
        check.due("stands below", x.stands(0, -1), NONE);
    }

    private static void standingInScopes() {
        PlugBoard x = Check.boardOf("part just 1 span each;part just 2 span each;part just 3 span each;part add 0 span each needs 0;part add 0 needs 0;");
        x.stand(0, 1);
        x.enter();
        x.enter();
        x.stand(0, 2);
        x.enter();
        check.due("scope 0", x.stands(0, 0), 1);
        check.due("scope 1", x.stands(0, 1), 1);
        check.due("scope 2", x.stands(0, 2), 2);
        check.due("scope 3", x.stands(0, 3), 2);
        check.due("stood for", x.count(5), 2);
        check.due("by none here is so already", x.stand(0, 0), false);
        check.due("the same here too", x.stand(0, 2), true);
        check.due("stood for thrice", x.count(5), 3);
        check.due("asked in scope 3", x.thing(x.ask(0), 0), 2);
        int each = x.ask(3);
        check.due("need of one that lives here", x.thing(x.has(each, 0), 0), 2);
        int onBoard = x.ask(4);
        check.due("need of one of the board", x.thing(x.has(onBoard, 0), 0), 1);
        x.leave();
        check.due("still of scope 2", x.stands(0, 2), 2);
        x.leave();
        check.due("gone with scope 2", x.stands(0, 1), 1);
        check.due("stood for once", x.count(5), 1);
        x.enter();
        check.due("a new scope 2 has none", x.stands(0, 2), 1);
    }
}
