import java.util.ArrayList;
import java.util.HashMap;
import java.util.List;
import java.util.Map;
import java.util.TreeSet;

/** The board once more, in the plainest form: undone acts are left out and all others done anew. */
final class Model {
    static final int NONE = -1;

    static final class Part {
        int act;
        int number;
        int span;
        int breaks;
        boolean bad;
        final List<Integer> needs = new ArrayList<>();
        final List<Boolean> lazy = new ArrayList<>();
    }

    static final class Thing {
        final int part;
        final int scope;
        Integer value;
        boolean reckoned;
        final Thing[] has = new Thing[4];

        Thing(int part, int scope) {
            this.part = part;
            this.scope = scope;
        }
    }

    static final class Cannot extends RuntimeException {
        private static final long serialVersionUID = 1L;
        final int kind;
        final transient List<Integer> way = new ArrayList<>();

        Cannot(int kind, int part) {
            this.kind = kind;
            way.add(part);
        }
    }

    final List<Part> parts;
    final List<Map<Integer, Integer>> scopes = new ArrayList<>();
    List<Thing> things = new ArrayList<>();
    final int[] made = new int[12];
    List<Integer> why = new ArrayList<>();
    int kind = 0;
    List<Integer> ended = new ArrayList<>();

    Model(List<Part> parts) {
        this.parts = parts;
        scopes.add(new HashMap<>());
    }

    /** Acts: 0 enter, 1 leave, 2 stand, 3 ask, 4 value. Answers NONE if it is refused. */
    int act(int[] act) {
        switch (act[0]) {
            case 0:
                return enter();
            case 1:
                return leave();
            case 2:
                return stand(act[1], act[2]);
            case 3:
                return ask(act[1]);
            default:
                return value(act[1]);
        }
    }

    boolean isPart(int p) {
        return p >= 0 && p < parts.size();
    }

    int depth() {
        return scopes.size() - 1;
    }

    private int enter() {
        if (depth() == 4) {
            return NONE;
        }
        scopes.add(new HashMap<>());
        return depth();
    }

    private int leave() {
        ended = new ArrayList<>();
        List<Thing> stay = new ArrayList<>();
        for (Thing t : things) {
            if (t.scope == depth()) {
                ended.add(0, t.part);
            } else {
                stay.add(t);
            }
        }
        things = stay;
        scopes.remove(depth());
        if (scopes.isEmpty()) {
            scopes.add(new HashMap<>());
        }
        return ended.size();
    }

    private int stand(int part, int by) {
        if (!isPart(part) || !isPart(by)) {
            return NONE;
        }
        Map<Integer, Integer> here = scopes.get(depth());
        if (here.getOrDefault(part, part) == by) {
            return NONE;
        }
        if (by == part) {
            here.remove(part);
        } else {
            here.put(part, by);
        }
        return 1;
    }

    private int ask(int part) {
        if (!isPart(part)) {
            return NONE;
        }
        try {
            return things.indexOf(asked(part, depth(), new TreeSet<>()));
        } catch (Cannot c) {
            why = c.way;
            kind = c.kind;
            return c.kind;
        }
    }

    private int value(int thing) {
        if (thing < 0 || thing >= things.size()) {
            return NONE;
        }
        try {
            valueOf(things.get(thing));
            return 1;
        } catch (Cannot c) {
            why = c.way;
            kind = c.kind;
            for (Thing t : things) {
                t.reckoned = false;
            }
            return c.kind;
        }
    }

    int stands(int part, int scope) {
        for (int s = scope; s >= 0; s--) {
            Integer by = scopes.get(s).get(part);
            if (by != null) {
                return by;
            }
        }
        return part;
    }

    private Thing asked(int named, int scope, TreeSet<Integer> way) {
        int p = stands(named, scope);
        Part part = parts.get(p);
        int home = part.span == 0 ? 0 : scope;
        if (part.span != 2) {
            for (Thing t : things) {
                if (t.part == p && t.scope == home) {
                    return t;
                }
            }
        }
        if (way.contains(p)) {
            throw new Cannot(-2, p);
        }
        if (things.size() == 60) {
            throw new Cannot(-4, p);
        }
        made[p]++;
        Thing thing = new Thing(p, home);
        way.add(p);
        for (int k = 0; k < part.needs.size(); k++) {
            if (!part.lazy.get(k)) {
                try {
                    thing.has[k] = asked(part.needs.get(k), home, way);
                } catch (Cannot c) {
                    c.way.add(0, p);
                    throw c;
                }
            }
        }
        if (made[p] == part.breaks) {
            throw new Cannot(-3, p);
        }
        if (things.size() == 60) {
            throw new Cannot(-4, p);
        }
        way.remove(p);
        things.add(thing);
        return thing;
    }

    private int valueOf(Thing thing) {
        if (thing.value != null) {
            return thing.value;
        }
        if (thing.reckoned) {
            throw new Cannot(-2, thing.part);
        }
        thing.reckoned = true;
        Part part = parts.get(thing.part);
        List<Integer> values = new ArrayList<>();
        for (int k = 0; part.act != 0 && k < part.needs.size(); k++) {
            try {
                if (thing.has[k] == null) {
                    thing.has[k] = asked(part.needs.get(k), thing.scope, new TreeSet<>());
                }
                values.add(valueOf(thing.has[k]));
            } catch (Cannot c) {
                c.way.add(0, thing.part);
                throw c;
            }
        }
        thing.reckoned = false;
        thing.value = total(part, values);
        return thing.value;
    }

    private static int total(Part part, List<Integer> values) {
        int all = part.number;
        for (int v : values) {
            if (part.act == 1) {
                all += v;
            } else if (part.act == 2) {
                all *= v;
            } else if (part.act == 3) {
                all = v > all ? v : all;
            } else if (part.act == 4) {
                all = v < all ? v : all;
            } else {
                all -= v;
            }
        }
        return all;
    }
}
