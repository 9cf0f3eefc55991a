import java.util.NoSuchElementException;

/**
 * All that can be told of a board after a run of calls, hidden things too: what undo() brings back, what
 * images hold, what is typed. Each page is told by an object of its own, as one is good for 512 calls only.
 */
final class Picture {
    /** Calls on a new object. */
    interface Run {
        void on(PlugBoard x);
    }

    private static final int NONE = PlugBoard.NONE;
    private static final int THINGS_A_PAGE = 20;

    private final StringBuilder told = new StringBuilder();

    private Picture() {
    }

    static String of(Run run) {
        Picture picture = new Picture();
        picture.tellPages("", run);
        picture.tellPaper("", run);
        picture.tellPast(run);
        picture.tellImages(run);
        return picture.told.toString();
    }

    /** The same, but for THE TEXT and the FAULT. */
    static String withoutPaper(Run run) {
        Picture picture = new Picture();
        picture.tellPages("", run);
        picture.tellPast(run);
        picture.tellImages(run);
        return picture.told.toString();
    }

    /** What can be seen now, without what is kept or can be undone. */
    static String now(Run run) {
        Picture picture = new Picture();
        picture.tellPages("", run);
        picture.tellPaper("", run);
        return picture.told.toString();
    }

    /** The first line in which two pictures differ, or nothing. */
    static String difference(String one, String other) {
        String[] lines = one.split("\n");
        String[] others = other.split("\n");
        for (int i = 0; i < Math.max(lines.length, others.length); i++) {
            String line = i < lines.length ? lines[i] : "nothing";
            String otherLine = i < others.length ? others[i] : "nothing";
            if (!line.equals(otherLine)) {
                return line + " | " + otherLine;
            }
        }
        return "";
    }

    private static PlugBoard after(Run run) {
        PlugBoard x = new PlugBoard();
        run.on(x);
        return x;
    }

    private void line(String what, Object... answers) {
        told.append(what);
        for (Object answer : answers) {
            told.append(' ').append(answer);
        }
        told.append('\n');
    }

    private void tellPages(String when, Run run) {
        tellCounts(when, after(run));
        tellTold(when, after(run));
        tellPlan(when, after(run));
        int parts = after(run).count(0);
        for (int p = 0; p < parts; p++) {
            tellPart(when, after(run), p);
        }
        int things = after(run).count(2);
        for (int from = 0; from < things; from += THINGS_A_PAGE) {
            tellThings(when, after(run), from, Math.min(things, from + THINGS_A_PAGE));
        }
    }

    private void tellCounts(String when, PlugBoard x) {
        for (int what = 0; what <= 10; what++) {
            if (what != 6 && what != 7) {
                line(when + "count " + what, x.count(what));
            }
        }
    }

    private void tellTold(String when, PlugBoard x) {
        for (int k = 0; k <= 75; k++) {
            line(when + "why, ended, badly " + k, x.why(k), x.ended(k, false), x.ended(k, true));
        }
    }

    private void tellPlan(String when, PlugBoard x) {
        for (int k = -1; k <= 12; k++) {
            line(when + "start, loop, looser " + k, x.start(k), x.loop(k), x.looser(k));
        }
        line(when + "deep", x.deep());
    }

    private void tellPart(String when, PlugBoard x, int p) {
        String name = when + "part " + p;
        for (int what = 0; what <= 8; what++) {
            line(name + " what " + what, x.part(p, what));
        }
        line(name + " needs", x.need(p, 0), x.need(p, 1), x.need(p, 2), x.need(p, 3), x.needs(p, false), x.needs(p, true));
        line(name + " stands", x.stands(p, 0), x.stands(p, 1), x.stands(p, 2), x.stands(p, 3), x.stands(p, 4));
        line(name + " would", x.would(p, 0), x.would(p, 1), x.worth(p));
        line(name + " plan", x.wave(p), x.lost(p));
    }

    private void tellThings(String when, PlugBoard x, int from, int to) {
        for (int t = from; t < to; t++) {
            String name = when + "thing " + t;
            line(name, x.thing(t, 0), x.thing(t, 1), x.thing(t, 2), x.thing(t, 3), x.thing(t, 4));
            line(name + " has", x.has(t, 0), x.has(t, 1), x.has(t, 2), x.has(t, 3));
        }
    }

    /** What is typed shows when it is read, alone and with a byte more. */
    private void tellPaper(String when, Run run) {
        PlugBoard x = after(run);
        line(when + "text, fault, place", x.count(7), x.fault(false), x.fault(true));
        x.read();
        line(when + "text read", x.count(0), x.fault(false), x.fault(true));
        for (int p = 0; p < x.count(0); p++) {
            line(when + "text's part " + p, x.part(p, 0), x.part(p, 1), x.part(p, 2), x.part(p, 3), x.part(p, 4));
        }
        x = after(run);
        x.type(0x3b00000000000000L);
        x.read();
        line(when + "text and a sign", x.count(0), x.fault(false), x.fault(true));
    }

    private void tellPast(Run run) {
        int acts = after(run).count(6);
        line("acts", acts);
        for (int back = 1; back <= acts; back++) {
            int steps = back;
            Run undone = x -> {
                run.on(x);
                for (int i = 0; i < steps; i++) {
                    x.undo();
                }
            };
            tellPages("undone " + back + ": ", undone);
            line("undone " + back + " left", after(undone).count(6));
        }
        PlugBoard x = after(run);
        for (int i = 0; i < acts; i++) {
            x.undo();
        }
        line("undone all", x.undo());
    }

    private void tellImages(Run run) {
        for (int k = 0; k < 3; k++) {
            int which = k;
            line("image " + k, after(run).again(k));
            if (after(run).again(k)) {
                Run kept = x -> {
                    run.on(x);
                    x.again(which);
                };
                tellPages("image " + k + ": ", kept);
                tellPaper("image " + k + ": ", kept);
            }
        }
    }

    /** A question whose exception is no matter here. */
    static void askPart(PlugBoard x, int part, int what) {
        try {
            x.part(part, what);
        } catch (NoSuchElementException none) {
            return;
        }
    }

    /** A question whose exception is no matter here. */
    static void askThing(PlugBoard x, int thing, int what) {
        try {
            x.thing(thing, what);
        } catch (NoSuchElementException none) {
            return;
        }
    }
}
