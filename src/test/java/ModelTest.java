import java.util.ArrayList;
import java.util.List;
import java.util.Random;

/**
 * Long runs of calls, by numbers that are the same each time, against the plain model. The questions make
 * more than 512 calls on an object, of which the document promises the first 512; the class does not count them.
 */
public final class ModelTest {
    private static final int NONE = PlugBoard.NONE;
    private static final String[] ACTS = {"just", "add", "mul", "max", "min", "sub"};
    private static final String[] SPANS = {"board", "scope", "each"};
    private static final Check check = new Check();

    private final Random random;
    private final PlugBoard x = new PlugBoard();
    private List<Model.Part> parts = new ArrayList<>();
    private List<int[]> done = new ArrayList<>();
    private int undoable = 0;
    // THE TEXT and the FAULT, which acts and undo() leave alone, but images keep.
    private String typed = "";
    private int fault = 0;
    private int place = NONE;
    private final List<List<Model.Part>> keptParts = new ArrayList<>();
    private final List<List<int[]>> keptDone = new ArrayList<>();
    private final String[] keptTyped = new String[3];
    private final int[] keptFault = new int[3];
    private final int[] keptPlace = new int[3];

    private ModelTest(int seed) {
        random = new Random(seed);
        for (int k = 0; k < 3; k++) {
            keptParts.add(null);
            keptDone.add(null);
        }
    }

    public static void main(String[] args) {
        int runs = args.length > 0 ? Integer.parseInt(args[0]) : 400;
        for (int seed = 0; seed < runs; seed++) {
            new ModelTest(seed).run(seed);
        }
        check.end();
    }

    private void run(int seed) {
        String run = "run " + seed;
        readParts(run);
        comparePlan(run);
        for (int step = 0; step < 60; step++) {
            step(run + " step " + step);
        }
    }

    private void step(String at) {
        int dice = random.nextInt(106);
        if (dice < 78) {
            doAct(at);
        } else if (dice < 88) {
            undo(at);
        } else if (dice < 93) {
            image(at, random.nextInt(3));
        } else if (dice < 98) {
            again(at, random.nextInt(3));
        } else if (dice < 102) {
            typeFaulty(at);
        } else if (dice < 104) {
            readFaulty(at);
        } else {
            readParts(at);
            comparePlan(at);
        }
        compare(at, replay());
    }

    private void doAct(String at) {
        int[] act = {random.nextInt(10), random.nextInt(14) - 1, random.nextInt(14) - 1};
        if (act[0] > 4) {
            act[0] = act[0] < 8 ? 3 : 4;
        }
        Model model = replay();
        if (act[0] == 4) {
            act[1] = random.nextInt(model.things.size() + 2) - 1;
        } else if (!parts.isEmpty() && random.nextInt(10) > 0) {
            act[1] = random.nextInt(parts.size());
            act[2] = random.nextInt(parts.size());
        }
        int due = model.act(act);
        check.due(at + " act " + act[0] + "(" + act[1] + "," + act[2] + ")", onBoard(act), due);
        if (due != NONE) {
            done.add(act);
            undoable = Math.min(undoable + 1, 8);
        }
    }

    private int onBoard(int[] act) {
        switch (act[0]) {
            case 0:
                return x.enter();
            case 1:
                return x.leave();
            case 2:
                return x.stand(act[1], act[2]) ? 1 : NONE;
            case 3:
                return x.ask(act[1]);
            default:
                return x.value(act[1]);
        }
    }

    private void undo(String at) {
        if (undoable == 0) {
            check.due(at + " undo", x.undo(), NONE);
            return;
        }
        undoable--;
        done.remove(done.size() - 1);
        check.due(at + " undo", x.undo(), undoable);
    }

    /** Blanks and a word that can not stand there: so the text is faulty, at a place that is easy to see. */
    private void typeFaulty(String at) {
        String more = " ".repeat(random.nextInt(90)) + "x" + "\n".repeat(random.nextInt(90));
        for (int from = 0; from < more.length(); from += 8) {
            String eight = more.substring(from, Math.min(more.length(), from + 8));
            boolean fits = typed.length() + eight.length() <= 600;
            typed += fits ? eight : "";
            check.due(at + " type", x.type(Check.eight(eight, 0)), fits ? typed.length() : NONE);
        }
    }

    private void readFaulty(String at) {
        if (typed.indexOf('x') < 0) {
            return;
        }
        check.due(at + " read", x.read(), NONE);
        fault = 1;
        place = typed.indexOf('x');
        typed = "";
    }

    private void image(String at, int k) {
        check.due(at + " image", x.image(k), true);
        keptParts.set(k, parts);
        keptDone.set(k, new ArrayList<>(done));
        keptTyped[k] = typed;
        keptFault[k] = fault;
        keptPlace[k] = place;
    }

    private void again(String at, int k) {
        boolean there = keptDone.get(k) != null;
        check.due(at + " again", x.again(k), there);
        if (there) {
            parts = keptParts.get(k);
            done = new ArrayList<>(keptDone.get(k));
            undoable = 0;
            typed = keptTyped[k];
            fault = keptFault[k];
            place = keptPlace[k];
            comparePlan(at);
        }
    }

    private Model replay() {
        Model model = new Model(parts);
        for (int[] act : done) {
            model.act(act);
        }
        return model;
    }

    private void readParts(String at) {
        readFaulty(at);
        int size = random.nextInt(13);
        int style = random.nextInt(4);
        parts = new ArrayList<>();
        done = new ArrayList<>();
        undoable = 0;
        StringBuilder text = new StringBuilder();
        for (int p = 0; p < size; p++) {
            Model.Part part = randomPart(p, size, style);
            parts.add(part);
            tellPart(text, part);
        }
        check.due(at + " length", Check.type(x, text.toString()), typed.length() + text.length());
        check.due(at + " read", x.read(), size);
        typed = "";
        fault = 0;
        place = NONE;
    }

    private Model.Part randomPart(int p, int size, int style) {
        Model.Part part = new Model.Part();
        part.act = random.nextInt(6);
        part.number = random.nextInt(1999) - 999;
        part.span = style == 3 ? 2 : random.nextInt(3);
        part.breaks = random.nextInt(4) == 0 ? random.nextInt(10) : 0;
        part.bad = random.nextInt(4) == 0;
        int needs = random.nextInt(style == 0 ? 2 : 4);
        for (int k = 0; k < needs; k++) {
            boolean lazy = random.nextInt(3) == 0;
            boolean back = !lazy && style < 3 && p > 0 && random.nextInt(4) > 0;
            part.needs.add(back ? random.nextInt(p) : random.nextInt(size));
            part.lazy.add(lazy);
        }
        return part;
    }

    private static void tellPart(StringBuilder text, Model.Part part) {
        text.append("part ").append(ACTS[part.act]).append(part.number);
        if (part.span > 0) {
            text.append("span ").append(SPANS[part.span]).append(" ");
        }
        for (int k = 0; k < part.needs.size(); k++) {
            boolean same = k > 0 && part.lazy.get(k).equals(part.lazy.get(k - 1));
            text.append(same ? " " : part.lazy.get(k) ? "lazy" : "needs").append(part.needs.get(k));
        }
        if (part.breaks > 0) {
            text.append("breaks").append(part.breaks);
        }
        text.append(part.bad ? "bad;" : ";");
    }

    private void comparePlan(String at) {
        PlanModel plan = new PlanModel(parts);
        check.due(at + " start", Check.start(x), row(plan.start()));
        check.due(at + " loop", Check.loop(x), row(plan.loop()));
        check.due(at + " deep", x.deep(), plan.deep());
        List<Integer> looser = plan.looser();
        String due = looser == null ? "-2:" : (looser.size() + ": " + row(looser)).trim();
        check.due(at + " looser", Check.looser(x), due);
        for (int p = 0; p < parts.size(); p++) {
            check.due(at + " needs " + p, x.needs(p, false), plan.needs(p, false));
            check.due(at + " lazy needs " + p, x.needs(p, true), plan.needs(p, true));
            check.due(at + " lost " + p, x.lost(p), plan.lost(p));
            check.due(at + " wave " + p, x.wave(p), plan.wave(p));
        }
    }

    private static String row(List<Integer> those) {
        StringBuilder row = new StringBuilder();
        for (int one : those) {
            row.append(' ').append(one);
        }
        return row.toString().trim();
    }

    private void compare(String at, Model model) {
        int valued = 0;
        for (Model.Thing t : model.things) {
            valued += t.value != null ? 1 : 0;
        }
        int made = 0;
        for (int often : model.made) {
            made += often;
        }
        int stood = 0;
        for (int s = 0; s <= model.depth(); s++) {
            stood += model.scopes.get(s).size();
        }
        List<Integer> bad = new ArrayList<>(model.ended);
        bad.removeIf(p -> !parts.get(p).bad);
        int[] counts = {parts.size(), model.depth(), model.things.size(), valued, made, stood, undoable, typed.length(), bad.size(), model.why.size(), model.kind};
        for (int what = 0; what < counts.length; what++) {
            check.due(at + " count " + what, x.count(what), counts[what]);
        }
        check.due(at + " fault", x.fault(false), fault);
        check.due(at + " place", x.fault(true), place);
        check.due(at + " why", Check.why(x), (model.kind + ": " + row(model.why)).trim());
        check.due(at + " ended", Check.ended(x, false), row(model.ended));
        check.due(at + " bad", Check.ended(x, true), row(bad));
        compareParts(at, model);
        compareThings(at, model);
    }

    private void compareParts(String at, Model model) {
        for (int p = 0; p < parts.size(); p++) {
            Model.Part part = parts.get(p);
            check.due(at + " made " + p, x.part(p, 6), model.made[p]);
            check.due(at + " span " + p, x.part(p, 3), part.span);
            for (int k = 0; k < part.needs.size(); k++) {
                check.due(at + " need", x.need(p, k), part.needs.get(k));
                check.due(at + " lazy", (x.part(p, 7) >> k & 1) != 0, part.lazy.get(k));
            }
            for (int s = 0; s <= model.depth(); s++) {
                check.due(at + " stands " + p, x.stands(p, s), model.stands(p, s));
            }
        }
        if (!parts.isEmpty()) {
            compareWould(at, random.nextInt(parts.size()));
        }
    }

    private void compareWould(String at, int p) {
        Model model = replay();
        int before = model.things.size();
        int answer = model.act(new int[] {3, p, 0});
        check.due(at + " would 0 " + p, x.would(p, 0), model.things.size() - before);
        check.due(at + " would 1 " + p, x.would(p, 1), answer);
        boolean there = answer >= 0 && model.act(new int[] {4, answer, 0}) == 1;
        check.due(at + " worth " + p, x.worth(p), there ? model.things.get(answer).value : 0);
    }

    private void compareThings(String at, Model model) {
        for (int t = 0; t < model.things.size(); t++) {
            Model.Thing thing = model.things.get(t);
            check.due(at + " part of " + t, x.thing(t, 0), thing.part);
            check.due(at + " scope of " + t, x.thing(t, 1), thing.scope);
            check.due(at + " valued " + t, x.thing(t, 2), thing.value != null ? 1 : 0);
            check.due(at + " value of " + t, x.thing(t, 3), thing.value != null ? thing.value : 0);
            int has = 0;
            for (int k = 0; k < 4; k++) {
                has += thing.has[k] != null ? 1 : 0;
                check.due(at + " has " + t, x.has(t, k), model.things.indexOf(thing.has[k]));
            }
            check.due(at + " has many " + t, x.thing(t, 4), has);
        }
    }
}
