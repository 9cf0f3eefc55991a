import java.util.LinkedHashMap;
import java.util.Map;

/** Terms 3: Questions change nothing. Refused calls change nothing, unless it is said. */
public final class RefusedTest {
    private static final int[] FAR = {Integer.MIN_VALUE, -2, -1, 12, 60, Integer.MAX_VALUE};
    private static final int[] NO_THING = {Integer.MIN_VALUE, -2, -1, 60, 61, Integer.MAX_VALUE};
    private static final String PARTS = "part add 1 needs 1 lazy 2;part just 2 span scope bad;part just 3 span each breaks 2;part add 1 needs 3;";
    private static final Check check = new Check();

    public static void main(String[] args) {
        Map<String, Picture.Run> states = new LinkedHashMap<>();
        states.put("new", x -> { });
        states.put("rich", RefusedTest::rich);
        states.put("deepest", RefusedTest::deepest);
        states.put("full", RefusedTest::full);
        states.forEach((name, state) -> {
            String before = Picture.of(state);
            refused(name, state, before);
            questions(name, state, before);
            questionsOfEach(name, state, before);
        });
        refusedAtLimits();
        check.end();
    }

    private static void rich(PlugBoard x) {
        Check.read(x, PARTS);
        x.ask(1);
        x.leave();
        x.stand(2, 1);
        x.image(1);
        x.enter();
        x.ask(0);
        x.value(1);
        x.stand(1, 0);
        x.ask(3);
        Check.read(x, "part just 1 breaks 10;");
        Check.type(x, "part just 77");
    }

    private static void deepest(PlugBoard x) {
        Check.read(x, PARTS);
        for (int i = 0; i < 4; i++) {
            x.ask(1);
            x.enter();
        }
        x.ask(0);
        x.image(0);
        x.image(2);
        x.ask(2);
    }

    private static void full(PlugBoard x) {
        Check.read(x, "part just 3 span each;part add 1 lazy 0;");
        x.ask(1);
        x.enter();
        for (int i = 0; i < 59; i++) {
            x.ask(0);
        }
        x.ask(0);
    }

    private static void unchanged(String what, Picture.Run state, String before, Picture.Run call) {
        String after = Picture.of(x -> {
            state.on(x);
            call.on(x);
        });
        check.due(what, Picture.difference(before, after), "");
    }

    private static void refused(String name, Picture.Run state, String before) {
        check.of("Terms 3: Refused calls change nothing; " + name);
        for (int far : FAR) {
            unchanged("stand " + far, state, before, x -> x.stand(far, 0));
            unchanged("stand by " + far, state, before, x -> x.stand(0, far));
            unchanged("ask " + far, state, before, x -> x.ask(far));
            unchanged("image " + far, state, before, x -> x.image(far));
            unchanged("again " + far, state, before, x -> x.again(far));
            unchanged("part " + far, state, before, x -> Picture.askPart(x, far, 0));
            unchanged("part's what " + far, state, before, x -> Picture.askPart(x, 0, far));
            unchanged("thing " + far, state, before, x -> Picture.askThing(x, far, 0));
            unchanged("thing's what " + far, state, before, x -> Picture.askThing(x, 0, far));
        }
        for (int far : NO_THING) {
            unchanged("value " + far, state, before, x -> x.value(far));
        }
        unchanged("ask one too many", state, before, x -> x.ask(x.count(0)));
        unchanged("value one too many", state, before, x -> x.value(x.count(2)));
        unchanged("image 3", state, before, x -> x.image(3));
        unchanged("again 3", state, before, x -> x.again(3));
        unchanged("stand as it is", state, before, x -> x.stand(3, 3));
        unchanged("type of nothing", state, before, x -> x.type(0x0061616161616161L));
    }

    private static void questions(String name, Picture.Run state, String before) {
        check.of("Terms 3: Questions change nothing; " + name);
        for (int what = -1; what <= 11; what++) {
            int k = what;
            unchanged("count " + k, state, before, x -> x.count(k));
            unchanged("why " + k, state, before, x -> x.why(k));
            unchanged("ended " + k, state, before, x -> x.ended(k, false));
            unchanged("ended badly " + k, state, before, x -> x.ended(k, true));
            unchanged("start " + k, state, before, x -> x.start(k));
            unchanged("loop " + k, state, before, x -> x.loop(k));
            unchanged("looser " + k, state, before, x -> x.looser(k));
        }
        unchanged("fault", state, before, x -> x.fault(false));
        unchanged("place", state, before, x -> x.fault(true));
        unchanged("deep", state, before, PlugBoard::deep);
    }

    private static void questionsOfEach(String name, Picture.Run state, String before) {
        for (int part = -1; part <= 4; part++) {
            int p = part;
            unchanged("would " + p, state, before, x -> x.would(p, 0));
            unchanged("would tell " + p, state, before, x -> x.would(p, 1));
            unchanged("would not " + p, state, before, x -> x.would(p, 2));
            unchanged("worth " + p, state, before, x -> x.worth(p));
            unchanged("wave " + p, state, before, x -> x.wave(p));
            unchanged("lost " + p, state, before, x -> x.lost(p));
            unchanged("needs " + p, state, before, x -> x.needs(p, false));
            unchanged("lazy needs " + p, state, before, x -> x.needs(p, true));
            for (int k = -1; k <= 9; k++) {
                int what = k;
                unchanged("part " + p, state, before, x -> Picture.askPart(x, p, what));
                unchanged("thing " + p, state, before, x -> Picture.askThing(x, p, what));
            }
            for (int k = -1; k <= 5; k++) {
                int which = k;
                unchanged("need " + p, state, before, x -> x.need(p, which));
                unchanged("has " + p, state, before, x -> x.has(p, which));
                unchanged("stands " + p, state, before, x -> x.stands(p, which));
            }
        }
    }

    private static void refusedAtLimits() {
        check.of("Terms 3: Refused calls change nothing");
        unchanged("enter a 5th scope", RefusedTest::deepest, Picture.of(RefusedTest::deepest), PlugBoard::enter);
        unchanged("undo of none", x -> { }, Picture.of(x -> { }), PlugBoard::undo);
        Picture.Run undone = x -> {
            rich(x);
            for (int i = 0; i < 8; i++) {
                x.undo();
            }
        };
        unchanged("undo of no more", undone, Picture.of(undone), PlugBoard::undo);
        Picture.Run brought = x -> {
            rich(x);
            x.image(2);
            x.again(2);
        };
        unchanged("undo behind again()", brought, Picture.of(brought), PlugBoard::undo);
        Picture.Run many = x -> {
            rich(x);
            for (int i = 0; i < 8; i++) {
                x.ask(1);
            }
            for (int i = 0; i < 8; i++) {
                x.undo();
            }
        };
        unchanged("undo of the 9th", many, Picture.of(many), PlugBoard::undo);
        Picture.Run typed = x -> {
            rich(x);
            Check.type(x, ";" + " ".repeat(600 - 13 - 7));
        };
        unchanged("type too much", typed, Picture.of(typed), x -> x.type(0x2020202020202020L));
        Picture.Run brim = x -> {
            typed.on(x);
            x.type(0x2020202020202000L);
        };
        unchanged("type one too many", brim, Picture.of(brim), x -> x.type(0x3b00000000000000L));
        unchanged("again of none kept", RefusedTest::rich, Picture.of(RefusedTest::rich), x -> x.again(0));
        unchanged("stand that is so", RefusedTest::rich, Picture.of(RefusedTest::rich), x -> x.stand(1, 0));
    }
}
