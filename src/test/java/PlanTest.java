/** Promises 19 to 21, 24 to 27: start, loop, needs, deep, wave, lost, looser. */
public final class PlanTest {
    private static final int NONE = PlugBoard.NONE;
    private static final Check check = new Check();

    public static void main(String[] args) {
        startOrder();
        startWithLoop();
        loopsFromTheirEntry();
        neededOnes();
        waves();
        lostOnes();
        loosening();
        looseningNotEnough();
        looseningTwins();
        standInsAreNotAsked();
        eachAskedFirst();
        check.end();
    }

    private static void startOrder() {
        PlugBoard x = Check.boardOf("part add 1 needs 3;part just 1;part add 1 needs 0 lazy 4;part just 1;part add 1 needs 2 1;");
        // 1 comes first; then 3 makes way for 0, the least then.
        check.due("start", Check.start(x), "1 3 0 2 4");
        check.due("how many", x.start(NONE), 5);
        check.due("above", x.start(5), NONE);
        check.due("below", x.start(-2), NONE);
        check.due("no loop", x.loop(NONE), 0);
        check.due("loop(0)", x.loop(0), NONE);
        check.due("deep", x.deep(), 4);
        check.due("looser", Check.looser(x), "0:");
        check.due("looser(0)", x.looser(0), NONE);
    }

    private static void startWithLoop() {
        PlugBoard x = Check.boardOf("part add 1 needs 1;part add 1 needs 2;part add 1 needs 3 1;part just 1;part add 1 needs 0;part just 2;");
        check.due("start", Check.start(x), "3 5");
        check.due("loop", Check.loop(x), "1 2");
        check.due("loop(2)", x.loop(2), NONE);
        check.due("loop(-2)", x.loop(-2), NONE);
        check.due("deep", x.deep(), NONE);
        check.due("wave of one that can", x.wave(3), 0);
        check.due("wave of one that can not", x.wave(0), NONE);
        check.due("wave of one in it", x.wave(1), NONE);
        check.due("looser", Check.looser(x), "1: 4");
        check.due("looser(1)", x.looser(1), NONE);
        check.due("looser(-2)", x.looser(-2), NONE);
    }

    private static void loopsFromTheirEntry() {
        PlugBoard x = Check.boardOf("part add 1 lazy 0 needs 4;part add 1 needs 2;part add 1 needs 5 3;part add 1 needs 1;part add 1 needs 3;part just 1;");
        check.due("from that which comes again", Check.loop(x), "3 1 2");
        check.due("start", Check.start(x), "5");
        x = Check.boardOf("part add 1 needs 0;");
        check.due("itself", Check.loop(x), "0");
        check.due("start", x.start(NONE), 0);
        check.due("looser", Check.looser(x), "1: 0");
        x = Check.boardOf("part add 1 lazy 0;");
        check.due("lazy itself", x.loop(NONE), 0);
        check.due("deep", x.deep(), 1);
    }

    private static void neededOnes() {
        PlugBoard x = Check.boardOf("part add 1 needs 1 lazy 3;part add 1 needs 2;part just 1;part add 1 lazy 4;part add 1 needs 0;part add 1 needs 5;");
        check.due("eager", x.needs(0, false), 0b000110);
        check.due("lazy, too", x.needs(0, true), 0b011111);
        check.due("none", x.needs(2, true), 0);
        check.due("lazy only", x.needs(3, false), 0);
        check.due("eager of 4", x.needs(4, false), 0b000111);
        check.due("itself by a way back", x.needs(5, false), 0b100000);
        check.due("none such", x.needs(6, false), NONE);
        check.due("below", x.needs(-1, true), NONE);
    }

    private static void waves() {
        PlugBoard x = Check.boardOf("part add 1 needs 1 2;part add 1 needs 2;part just 1;part add 1 lazy 0;part add 1 needs 3 0;");
        int[] due = {2, 1, 0, 0, 3};
        for (int p = 0; p < due.length; p++) {
            check.due("wave of " + p, x.wave(p), due[p]);
        }
        check.due("none such", x.wave(5), NONE);
        check.due("below", x.wave(-1), NONE);
        check.due("deep", x.deep(), 4);
    }

    private static void lostOnes() {
        PlugBoard x = Check.boardOf("part add 1 needs 1;part add 1 needs 2;part just 1;part add 1 lazy 2;part add 1 needs 3 4;");
        check.due("2", x.lost(2), 0b00111);
        check.due("1", x.lost(1), 0b00011);
        check.due("0", x.lost(0), 0b00001);
        check.due("3", x.lost(3), 0b11000);
        check.due("4", x.lost(4), 0b10000);
        check.due("none such", x.lost(5), NONE);
        check.due("below", x.lost(-1), NONE);
    }

    private static void loosening() {
        // Two rings meet in part 2: one need is enough.
        PlugBoard x = Check.boardOf("part add 1 needs 2;part add 1 needs 2;part add 1 needs 3;part add 1 needs 0 1;");
        check.due("one", Check.looser(x), "1: 8");
        // Two rings apart: the least of each.
        x = Check.boardOf("part add 1 needs 1;part add 1 needs 0;part add 1 lazy 2 needs 3;part add 1 needs 2;");
        check.due("two", Check.looser(x), "2: 0 9");
        x = Check.boardOf("part add 1 needs 0;part add 1 needs 1;part add 1 needs 0 2;");
        check.due("three", Check.looser(x), "3: 0 4 9");
    }

    private static void looseningNotEnough() {
        PlugBoard x = Check.boardOf("part add 1 needs 0;part add 1 needs 1;part add 1 needs 2;part add 1 needs 3;");
        check.due("four", x.looser(NONE), -2);
        check.due("its k-th", x.looser(0), -2);
        x = Check.boardOf("part add 1 needs 0 0 0 0;");
        check.due("four of one", x.looser(NONE), -2);
    }

    private static void looseningTwins() {
        PlugBoard x = Check.boardOf("part add 1 needs 1 1;part add 1 needs 0;");
        check.due("the single one", Check.looser(x), "1: 4");
        x = Check.boardOf("part add 1 needs 1 1;part add 1 needs 0 lazy 0 needs 0;");
        check.due("both of the first", Check.looser(x), "2: 0 1");
        x = Check.boardOf("part add 1 needs 0 lazy 0 needs 0 0;");
        check.due("lazy is lazy already", Check.looser(x), "3: 0 2 3");
    }

    private static void standInsAreNotAsked() {
        PlugBoard x = Check.boardOf("part add 1 needs 1;part just 1;part add 1 needs 0;");
        x.stand(1, 2);
        check.due("ring if asked", x.would(0, 1), -2);
        check.due("start", Check.start(x), "1 0 2");
        check.due("needs", x.needs(0, false), 2);
        check.due("lost", x.lost(1), 7);
        check.due("deep", x.deep(), 3);
        Check.read(x, "part add 1 needs 0;");
        check.due("start of the new parts", Check.start(x), "");
        check.due("looser of the new parts", Check.looser(x), "1: 0");
    }

    private static void eachAskedFirst() {
        String text = "part add 1 needs 1;part add 1 needs 2;part add 1 needs 3;part just 1;part add 1 needs 4;";
        check.due("start", Check.boardOf(text).start(NONE), 4);
        check.due("start(0)", Check.boardOf(text).start(0), 3);
        check.due("loop", Check.boardOf(text).loop(NONE), 1);
        check.due("loop(0)", Check.boardOf(text).loop(0), 4);
        check.due("needs", Check.boardOf(text).needs(0, false), 14);
        check.due("deep", Check.boardOf(text).deep(), NONE);
        check.due("wave", Check.boardOf(text).wave(0), 3);
        check.due("lost", Check.boardOf(text).lost(3), 15);
        check.due("looser", Check.boardOf(text).looser(NONE), 1);
        check.due("looser(0)", Check.boardOf(text).looser(0), 16);
        check.due("deep", Check.boardOf("part add 1 needs 1;part just 1;").deep(), 2);
    }
}
