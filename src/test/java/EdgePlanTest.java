/** The edges that Terms 3 and promises 19 to 27 name, sentence by sentence. */
public final class EdgePlanTest {
    private static final int NONE = PlugBoard.NONE;
    private static final int[] FAR = {Integer.MIN_VALUE, -1000, -2, 12, 48, 1000, Integer.MAX_VALUE};
    private static final Check check = new Check();

    public static void main(String[] args) {
        startOfNone();
        startNotSoMany();
        startLeastFirst();
        startOfTwelve();
        loopWithout();
        loopNotSoMany();
        loopOfItself();
        loopOfTwelve();
        loopBehindAWay();
        loopByFirstNeeds();
        needsOfNone();
        needsByAWayBack();
        needsOfTwelve();
        wouldOfNone();
        wouldAtTheBrim();
        wouldOfRefusals();
        worthOfNone();
        worthOfNothing();
        worthAtTheBrim();
        worthOfTheLast();
        deepOfNone();
        deepOfTwelve();
        deepWithLoop();
        waveOfNone();
        waveOfTwelve();
        waveBehindALoop();
        lostOfNone();
        lostOfAll();
        looserWithout();
        looserNotSoMany();
        looserUpToThree();
        looserNotEnough();
        looserOfTheLast();
        looserLeastRow();
        standInsAreNotAsked();
        otherParts();
        check.end();
    }

    /** Each part needs the next one; the last one needs what is told. */
    private static String chain(int many, String last) {
        StringBuilder text = new StringBuilder();
        for (int p = 0; p < many - 1; p++) {
            text.append("part add 1 needs ").append(p + 1).append(';');
        }
        return text + "part add 1" + last + ";";
    }

    private static void startOfNone() {
        check.of("19: how many there are (k NONE); no parts");
        PlugBoard x = new PlugBoard();
        check.due("how many", x.start(NONE), 0);
        check.due("the first", x.start(0), NONE);
    }

    private static void startNotSoMany() {
        check.of("19: NONE: not so many");
        PlugBoard x = Check.boardOf("part add 1 needs 1;part just 1;part add 1 needs 2;");
        check.due("how many can", x.start(NONE), 2);
        check.due("first", x.start(0), 1);
        check.due("second", x.start(1), 0);
        check.due("third", x.start(2), NONE);
        for (int far : FAR) {
            check.due("start " + far, x.start(far), NONE);
        }
        PlugBoard y = Check.boardOf("part add 1 needs 0;");
        check.due("none can", y.start(NONE), 0);
        check.due("the first", y.start(0), NONE);
    }

    private static void startLeastFirst() {
        check.of("Terms 3: again and again the least PART not there yet, of which all EAGER NEEDS are there, comes");
        check.due("lazy ones do not bind", Check.start(Check.boardOf("part add 1 lazy 2;part just 1;part add 1 lazy 2;")), "0 1 2");
        check.due("the least once it can", Check.start(Check.boardOf("part add 1 needs 1;part just 1;part just 1;")), "1 0 2");
        check.due("all of its needs", Check.start(Check.boardOf("part add 1 needs 1 3;part just 1;part just 1;part just 1;")), "1 2 3 0");
        check.due("the same twice", Check.start(Check.boardOf("part add 1 needs 1 1 lazy 0;part just 1;")), "1 0");
        check.due("what needs one that can not", Check.start(Check.boardOf("part add 1 needs 1;part add 1 needs 1;part just 1;")), "2");
    }

    private static void startOfTwelve() {
        check.of("19: The k-th PART of the START ORDER (all 12)");
        PlugBoard x = Check.boardOf(chain(12, ""));
        check.due("order", Check.start(x), "11 10 9 8 7 6 5 4 3 2 1 0");
        check.due("how many", x.start(NONE), 12);
        check.due("the last", x.start(11), 0);
        check.due("no more", x.start(12), NONE);
    }

    private static void loopWithout() {
        check.of("20: how many there are (k NONE; 0 without)");
        PlugBoard none = new PlugBoard();
        check.due("no parts", none.loop(NONE), 0);
        check.due("the first", none.loop(0), NONE);
        PlugBoard x = Check.boardOf(chain(12, " lazy 0"));
        check.due("a lazy way back is none", x.loop(NONE), 0);
        check.due("the first", x.loop(0), NONE);
    }

    private static void loopNotSoMany() {
        check.of("20: NONE: not so many");
        PlugBoard x = Check.boardOf("part add 1 needs 1;part add 1 needs 0;part add 1 needs 1;");
        check.due("how many", x.loop(NONE), 2);
        check.due("first", x.loop(0), 0);
        check.due("second", x.loop(1), 1);
        check.due("third", x.loop(2), NONE);
        for (int far : FAR) {
            check.due("loop " + far, x.loop(far), NONE);
        }
    }

    private static void loopOfItself() {
        check.of("Terms 3: till one comes again: from that on (itself)");
        check.due("the first", Check.loop(Check.boardOf("part add 1 needs 0;")), "0");
        check.due("the last", Check.loop(Check.boardOf("part just 1;".repeat(11) + "part add 1 needs 0 11;")), "11");
        check.due("behind another", Check.loop(Check.boardOf("part add 1 needs 1;part add 1 needs 1;")), "1");
    }

    private static void loopOfTwelve() {
        check.of("20: The k-th PART of the LOOP (all 12)");
        PlugBoard x = Check.boardOf(chain(12, " needs 0"));
        check.due("loop", Check.loop(x), "0 1 2 3 4 5 6 7 8 9 10 11");
        check.due("how many", x.loop(NONE), 12);
        check.due("no more", x.loop(12), NONE);
        check.due("from the last but one on", Check.loop(Check.boardOf(chain(12, " needs 10"))), "10 11");
        check.due("from the last on", Check.loop(Check.boardOf(chain(12, " needs 11"))), "11");
    }

    private static void loopBehindAWay() {
        check.of("Terms 3: from the least of those that can not");
        PlugBoard x = Check.boardOf("part just 1;part add 1 needs 4;part add 1 needs 3;part add 1 needs 2;part add 1 needs 5;part add 1 needs 4;");
        check.due("not the least loop, that of the least one", Check.loop(x), "4 5");
        PlugBoard y = Check.boardOf("part add 1 needs 2;part add 1 needs 2;part add 1 needs 1;");
        check.due("it begins where the way comes to it", Check.loop(y), "2 1");
    }

    private static void loopByFirstNeeds() {
        check.of("Terms 3: on to its first EAGER NEED that can not");
        check.due("needs that can are passed by", Check.loop(Check.boardOf("part add 1 needs 1 1 2;part just 1;part add 1 needs 1 0;")), "0 2");
        check.due("lazy ones are passed by", Check.loop(Check.boardOf("part add 1 lazy 0 needs 1;part add 1 lazy 1 0 needs 0;")), "0 1");
        check.due("the first of two", Check.loop(Check.boardOf("part add 1 needs 2 1;part add 1 needs 0;part add 1 needs 0;")), "0 2");
        check.due("the fourth", Check.loop(Check.boardOf("part add 1 lazy 0 1 0 needs 1;part add 1 needs 2 2 2 0;part just 1;")), "0 1");
    }

    private static void needsOfNone() {
        check.of("21: NONE: there is none such");
        check.due("no parts", new PlugBoard().needs(0, true), NONE);
        PlugBoard x = Check.boardOf("part just 1;part add 1 needs 0;");
        for (int far : FAR) {
            check.due("needs " + far, x.needs(far, false), NONE);
            check.due("lazy " + far, x.needs(far, true), NONE);
        }
        check.due("-1", x.needs(-1, false), NONE);
        check.due("2 of 2", x.needs(2, false), NONE);
        check.due("the last", x.needs(1, false), 1);
        check.due("no needs", x.needs(0, true), 0);
    }

    private static void needsByAWayBack() {
        check.of("21: EAGER ones (lazy: LAZY ones, too), and these need, and so on (itself only by a way back)");
        PlugBoard x = Check.boardOf("part add 1 needs 1;part add 1 lazy 2;part add 1 needs 0;part add 1 needs 3;part add 1 lazy 4;");
        check.due("eager ones of 0", x.needs(0, false), 0b00010);
        check.due("lazy ones, too: a way back", x.needs(0, true), 0b00111);
        check.due("eager ones of 1", x.needs(1, false), 0);
        check.due("lazy ones of 1", x.needs(1, true), 0b00111);
        check.due("eager ones of 2", x.needs(2, false), 0b00011);
        check.due("itself at once", x.needs(3, false), 0b01000);
        check.due("itself by a lazy one", x.needs(4, true), 0b10000);
        check.due("itself by an eager one: none", x.needs(4, false), 0);
    }

    private static void needsOfTwelve() {
        check.of("21: as bits (all 12)");
        PlugBoard x = Check.boardOf(chain(12, ""));
        check.due("all but itself", x.needs(0, false), 4094);
        check.due("the last but one", x.needs(10, false), 2048);
        check.due("the last", x.needs(11, false), 0);
        PlugBoard ring = Check.boardOf(chain(12, " lazy 0"));
        check.due("eager", ring.needs(5, false), 4095 & ~63);
        check.due("all", ring.needs(5, true), 4095);
    }

    private static void wouldOfNone() {
        check.of("22: NONE: there is none such, another what");
        check.due("no parts", new PlugBoard().would(0, 0), NONE);
        check.due("no parts", new PlugBoard().would(0, 1), NONE);
        PlugBoard x = Check.boardOf("part just 1;part just 2;");
        for (int far : FAR) {
            check.due("part " + far, x.would(far, 0), NONE);
            check.due("part " + far, x.would(far, 1), NONE);
            check.due("what " + far, x.would(0, far), NONE);
        }
        check.due("part -1", x.would(-1, 0), NONE);
        check.due("part -1", x.would(-1, 1), NONE);
        check.due("part 2 of 2", x.would(2, 0), NONE);
        check.due("part 2 of 2", x.would(2, 1), NONE);
        check.due("what -1", x.would(1, -1), NONE);
        check.due("what 2", x.would(1, 2), NONE);
        check.due("the last", x.would(1, 0), 1);
        check.due("the last's thing", x.would(1, 1), 0);
    }

    private static void wouldAtTheBrim() {
        check.of("22: what 0: how many THINGS would be made (also if it came to nothing), 1: what ask() would tell");
        PlugBoard x = Check.boardOf("part just 1 span each;part add 1 span each needs 0 0;part add 1 needs 3 0;part just 1;");
        for (int i = 0; i < 56; i++) {
            x.ask(0);
        }
        x.ask(3);
        check.due("three places for three", x.would(1, 0), 3);
        check.due("the 60th", x.would(1, 1), 59);
        x.ask(0);
        check.due("two places for three", x.would(1, 0), 2);
        check.due("full", x.would(1, 1), -4);
        x.ask(0);
        check.due("one place", x.would(1, 0), 1);
        check.due("full", x.would(1, 1), -4);
        x.ask(0);
        check.due("no place", x.would(1, 0), 0);
        check.due("full", x.would(1, 1), -4);
        check.due("there already", x.would(3, 0), 0);
        check.due("its thing", x.would(3, 1), 56);
        check.due("nothing was made", x.part(1, 6), 0);
    }

    private static void wouldOfRefusals() {
        check.of("22: Were a PART ASKED now");
        PlugBoard x = Check.boardOf("part just 1 breaks 2 span each;part add 1 needs 3 1;part add 1 needs 3 0;part just 1;");
        check.due("ring", x.would(1, 1), -2);
        check.due("made ahead of the ring", x.would(1, 0), 1);
        check.due("not broken yet", x.would(0, 1), 0);
        x.ask(0);
        check.due("broken", x.would(0, 1), -3);
        check.due("none made", x.would(0, 0), 0);
        check.due("broken behind another", x.would(2, 1), -3);
        check.due("made ahead of it", x.would(2, 0), 1);
        check.due("asked twice, the same", x.would(2, 1), -3);
        check.due("as ask() tells", x.ask(2), -3);
        check.due("no more", x.would(2, 1), 3);
    }

    private static void worthOfNone() {
        check.of("23: 0: there is none such");
        check.due("no parts", new PlugBoard().worth(0), 0);
        PlugBoard x = Check.boardOf("part just 7;part just 8;");
        for (int far : FAR) {
            check.due("worth " + far, x.worth(far), 0);
        }
        check.due("-1", x.worth(-1), 0);
        check.due("2 of 2", x.worth(2), 0);
        check.due("the first", x.worth(0), 7);
        check.due("the last", x.worth(1), 8);
    }

    private static void worthOfNothing() {
        check.of("23: 0: it would come to nothing");
        PlugBoard x = Check.boardOf("part add 7 needs 0;part just 8 breaks 1;part add 9 lazy 1;part add 9 lazy 3;part add 9 needs 1;part just 0;");
        int[] due = {0, 0, 0, 0, 0, 0};
        for (int p = 0; p < due.length; p++) {
            check.due("worth " + p, x.worth(p), due[p]);
        }
        x.ask(1);
        check.due("broken once", x.worth(1), 8);
        check.due("its lazy one is not broken any more", x.worth(2), 17);
        check.due("its eager one, too", x.worth(4), 17);
    }

    private static void worthAtTheBrim() {
        check.of("23: VALUE that a PART would have, ASKED now, and its VALUE asked for then");
        PlugBoard x = Check.boardOf("part just 3 span each;part add 1 span each lazy 0;part add 4 lazy 2;");
        for (int i = 0; i < 58; i++) {
            x.ask(0);
        }
        check.due("two places", x.worth(1), 4);
        x.ask(0);
        check.due("one place", x.worth(1), 0);
        check.due("one place is enough", x.worth(0), 3);
        x.ask(0);
        check.due("no place", x.worth(0), 0);
        check.due("things", x.count(2), 60);
        check.due("values", x.count(3), 0);
    }

    private static void worthOfTheLast() {
        check.of("23: VALUE that a PART would have, ASKED now (of the 60th thing, with its needs)");
        PlugBoard x = Check.boardOf("part just 3 span each;part just 5;part just 7;part sub 100 needs 1 2 lazy 1 2;");
        for (int i = 0; i < 57; i++) {
            x.ask(0);
        }
        x.ask(3);
        check.due("things", x.count(2), 60);
        check.due("worth", x.worth(3), 100 - 5 - 7 - 5 - 7);
        check.due("nothing is reckoned", x.count(3), 0);
        check.due("its thing", x.would(3, 1), 59);
        check.due("value", x.value(59), 1);
        check.due("worth", x.worth(3), x.thing(59, 3));
    }

    private static void deepOfNone() {
        check.of("24: how many PARTS");
        check.due("no parts", new PlugBoard().deep(), 0);
        check.due("one", Check.boardOf("part just 1;").deep(), 1);
        check.due("two apart", Check.boardOf("part just 1;part just 1;").deep(), 1);
        check.due("lazy", Check.boardOf("part add 1 lazy 1;part just 1;").deep(), 1);
    }

    private static void deepOfTwelve() {
        check.of("24: The longest row of PARTS each of which is an EAGER NEED of the one ahead of it");
        check.due("all 12", Check.boardOf(chain(12, "")).deep(), 12);
        check.due("all 12, lazy back", Check.boardOf(chain(12, " lazy 0")).deep(), 12);
        check.due("the longer of two", Check.boardOf("part add 1 needs 1 2;part just 1;part add 1 needs 3;part just 1;").deep(), 3);
        check.due("not from the first on", Check.boardOf("part just 1;part add 1 needs 2;part just 1;").deep(), 2);
    }

    private static void deepWithLoop() {
        check.of("24: NONE: there is a LOOP");
        check.due("itself", Check.boardOf("part add 1 needs 0;").deep(), NONE);
        check.due("all", Check.boardOf(chain(12, " needs 0")).deep(), NONE);
        check.due("apart from it", Check.boardOf("part just 1;part add 1 needs 0;part add 1 needs 2;").deep(), NONE);
    }

    private static void waveOfNone() {
        check.of("25: NONE: there is none such");
        check.due("no parts", new PlugBoard().wave(0), NONE);
        PlugBoard x = Check.boardOf("part just 1;part just 2;");
        for (int far : FAR) {
            check.due("wave " + far, x.wave(far), NONE);
        }
        check.due("-1", x.wave(-1), NONE);
        check.due("2 of 2", x.wave(2), NONE);
        check.due("the last", x.wave(1), 0);
    }

    private static void waveOfTwelve() {
        check.of("25: 0, if it has no EAGER NEEDS; else one more than the greatest WAVE of these");
        PlugBoard x = Check.boardOf(chain(12, " lazy 0 11"));
        for (int p = 0; p < 12; p++) {
            check.due("wave " + p, x.wave(p), 11 - p);
        }
        PlugBoard y = Check.boardOf("part add 1 needs 1 2 3;part just 1;part add 1 needs 3;part add 1 needs 1;part add 1 needs 1 lazy 0;");
        int[] due = {3, 0, 2, 1, 1};
        for (int p = 0; p < due.length; p++) {
            check.due("wave " + p, y.wave(p), due[p]);
        }
    }

    private static void waveBehindALoop() {
        check.of("25: NONE: it can not start");
        PlugBoard x = Check.boardOf("part add 1 needs 0;part add 1 needs 0;part just 1;part add 1 needs 2 1;part add 1 lazy 0 needs 2;");
        int[] due = {NONE, NONE, 0, NONE, 1};
        for (int p = 0; p < due.length; p++) {
            check.due("wave " + p, x.wave(p), due[p]);
        }
    }

    private static void lostOfNone() {
        check.of("26: NONE: there is none such");
        check.due("no parts", new PlugBoard().lost(0), NONE);
        PlugBoard x = Check.boardOf("part just 1;part just 2;");
        for (int far : FAR) {
            check.due("lost " + far, x.lost(far), NONE);
        }
        check.due("-1", x.lost(-1), NONE);
        check.due("2 of 2", x.lost(2), NONE);
        check.due("the last", x.lost(1), 2);
    }

    private static void lostOfAll() {
        check.of("26: PARTS that need a PART by EAGER NEEDS, of any number one behind the other, and itself, as bits");
        PlugBoard x = Check.boardOf(chain(12, ""));
        check.due("the last is needed by all", x.lost(11), 4095);
        check.due("the first by itself", x.lost(0), 1);
        PlugBoard up = Check.boardOf("part just 1;" + "part add 1 needs 0;part add 1 needs 1;part add 1 needs 2;");
        check.due("upwards", up.lost(0), 15);
        check.due("lazy ones do not count", Check.boardOf("part add 1 lazy 1;part just 1;").lost(1), 2);
        check.due("by the fourth need", Check.boardOf("part add 1 lazy 1 1 1 needs 1;part just 1;").lost(1), 3);
        check.due("in a ring", Check.boardOf(chain(12, " needs 0")).lost(7), 4095);
        check.due("itself by itself", Check.boardOf("part add 1 needs 0;part just 1;").lost(0), 1);
    }

    private static void looserWithout() {
        check.of("27: so that there is no LOOP: how many (k NONE): 0 without");
        check.due("no parts", new PlugBoard().looser(NONE), 0);
        check.due("no parts", new PlugBoard().looser(0), NONE);
        PlugBoard x = Check.boardOf(chain(12, " lazy 0"));
        check.due("no loop", x.looser(NONE), 0);
        check.due("the first", x.looser(0), NONE);
    }

    private static void looserNotSoMany() {
        check.of("27: NONE: not so many");
        for (int many = 1; many <= 3; many++) {
            StringBuilder text = new StringBuilder();
            for (int p = 0; p < many; p++) {
                text.append("part add 1 needs ").append(p).append(';');
            }
            PlugBoard x = Check.boardOf(text.toString());
            check.due("how many", x.looser(NONE), many);
            check.due("the last", x.looser(many - 1), 4 * (many - 1));
            check.due("one more", x.looser(many), NONE);
            for (int far : FAR) {
                check.due("looser " + far, x.looser(far), NONE);
            }
        }
    }

    private static void looserUpToThree() {
        check.of("27: The fewest NEEDS, 3 at most");
        check.due("one of a ring", Check.looser(Check.boardOf(chain(12, " needs 0"))), "1: 0");
        check.due("one for two rings", Check.looser(Check.boardOf("part add 1 needs 1;part add 1 needs 2 3;part add 1 needs 0;part add 1 needs 0;")), "1: 0");
        check.due("two of one part", Check.looser(Check.boardOf("part add 1 needs 0 0;")), "2: 0 1");
        check.due("three of one part", Check.looser(Check.boardOf("part add 1 needs 0 0 lazy 0 needs 0;")), "3: 0 1 3");
        check.due("three apart", Check.looser(Check.boardOf("part add 1 needs 0;part just 1;part add 1 needs 1 2;part add 1 needs 1 1 3;")), "3: 0 9 14");
    }

    private static void looserNotEnough() {
        check.of("27: -2: 3 are not enough");
        String[] texts = {"part add 1 needs 0 0 0 0;", "part add 1 needs 0 0;part add 1 needs 1 1;",
            "part add 1 needs 0;part add 1 needs 1;part add 1 needs 2;part add 1 needs 3;",
            "part add 1 needs 0;part add 1 needs 1;part add 1 needs 2;part add 1 needs 4;part add 1 needs 3;"};
        for (String text : texts) {
            PlugBoard x = Check.boardOf(text);
            check.due("how many", x.looser(NONE), -2);
            check.due("the first", x.looser(0), -2);
            check.due("the fourth", x.looser(3), -2);
        }
    }

    private static void looserOfTheLast() {
        check.of("27: the k-th, as 4 times the PART and which NEED");
        check.due("the last need of the last part",
                Check.looser(Check.boardOf("part just 1;".repeat(11) + "part add 1 needs 0 1 2 11;")), "1: 47");
        check.due("the last three",
                Check.looser(Check.boardOf("part just 1;".repeat(11) + "part add 1 needs 0 11 11 11;")), "3: 45 46 47");
        check.due("the first need of the last part",
                Check.looser(Check.boardOf("part just 1;".repeat(11) + "part add 1 needs 11;")), "1: 44");
    }

    private static void looserLeastRow() {
        check.of("27: (rising; of as few the least row)");
        check.due("the least of a ring", Check.looser(Check.boardOf("part just 1;part add 1 needs 0 2;part add 1 needs 0 1;")), "1: 5");
        check.due("of two rings that share the last", Check.looser(Check.boardOf("part add 1 needs 2;part add 1 needs 2;part add 1 needs 0 1;")), "2: 0 4");
        check.due("one need for both", Check.looser(Check.boardOf("part add 1 needs 3;part add 1 needs 3;part add 1 needs 0 1;part add 1 needs 2;")), "1: 12");
        check.due("the least, though the loop begins behind it", Check.looser(Check.boardOf("part add 1 needs 2;part add 1 needs 2;part add 1 needs 1;")), "1: 4");
        check.due("of two loops that begin behind their least", Check.looser(Check.boardOf(
                "part add 1 needs 4;part add 1 needs 2;part add 1 needs 1;part add 1 needs 4;part add 1 needs 3;")), "2: 4 12");
        check.due("of three", Check.looser(Check.boardOf(
                "part add 1 needs 2;part add 1 needs 2;part add 1 needs 1;part add 1 needs 4;part add 1 needs 3;part add 1 lazy 5 needs 6;part add 1 needs 5;")), "3: 4 12 21");
        check.due("fewer goes ahead of less", Check.looser(Check.boardOf("part add 1 needs 1 2;part add 1 needs 3;part add 1 needs 3;part add 1 needs 0;")), "1: 12");
    }

    private static String plan(PlugBoard x) {
        StringBuilder told = new StringBuilder();
        told.append(Check.start(x)).append('|').append(Check.loop(x)).append('|').append(Check.looser(x)).append('|').append(x.deep());
        for (int p = 0; p < x.count(0); p++) {
            told.append('|').append(x.needs(p, false)).append(' ').append(x.needs(p, true)).append(' ').append(x.wave(p)).append(' ').append(x.lost(p));
        }
        return told.toString();
    }

    private static void otherParts() {
        check.of("3: all is as at first, but PARTS as told (asked anew of other parts)");
        String[] texts = {"", "part add 1 needs 0;", chain(4, ""), chain(4, " needs 1"), "part add 1 needs 0;part add 1 needs 1;part just 1;",
            "part add 1 needs 0 0 0 0;", "part just 1;part just 1;"};
        for (String first : texts) {
            for (String then : texts) {
                PlugBoard x = Check.boardOf(first);
                plan(x);
                Check.read(x, then);
                check.due("'" + then + "' behind '" + first + "'", plan(x), plan(Check.boardOf(then)));
            }
        }
    }

    private static void standInsAreNotAsked() {
        check.of("Terms 3: START ORDER of all PARTS by EAGER NEEDS (what is STOOD FOR not asked)");
        String text = "part add 1 needs 1;part just 1;part add 1 needs 0;";
        PlugBoard plain = Check.boardOf(text);
        PlugBoard x = Check.boardOf(text);
        x.stand(1, 2);
        x.enter();
        x.stand(1, 0);
        check.due("start", Check.start(x), Check.start(plain));
        check.due("loop", x.loop(NONE), 0);
        check.due("looser", x.looser(NONE), 0);
        check.due("deep", x.deep(), 3);
        for (int p = 0; p < 3; p++) {
            check.due("wave", x.wave(p), plain.wave(p));
            check.due("lost", x.lost(p), plain.lost(p));
            check.due("needs", x.needs(p, true), plain.needs(p, true));
        }
    }
}
