import java.util.ArrayList;
import java.util.HashSet;
import java.util.List;
import java.util.Set;

/** What parts alone tell, by trying all ways. */
final class PlanModel {
    private final List<Model.Part> parts;

    PlanModel(List<Model.Part> parts) {
        this.parts = parts;
    }

    private List<Integer> eager(int p, Set<Integer> loosened) {
        List<Integer> row = new ArrayList<>();
        for (int k = 0; k < parts.get(p).needs.size(); k++) {
            if (!parts.get(p).lazy.get(k) && !loosened.contains(4 * p + k)) {
                row.add(parts.get(p).needs.get(k));
            }
        }
        return row;
    }

    List<Integer> start() {
        return start(Set.of());
    }

    private List<Integer> start(Set<Integer> loosened) {
        List<Integer> order = new ArrayList<>();
        boolean more = true;
        while (more) {
            more = false;
            for (int p = 0; p < parts.size() && !more; p++) {
                if (!order.contains(p) && order.containsAll(eager(p, loosened))) {
                    order.add(p);
                    more = true;
                }
            }
        }
        return order;
    }

    List<Integer> loop() {
        List<Integer> can = start();
        List<Integer> walk = new ArrayList<>();
        int p = 0;
        while (p < parts.size() && can.contains(p)) {
            p++;
        }
        if (p == parts.size()) {
            return walk;
        }
        while (!walk.contains(p)) {
            walk.add(p);
            List<Integer> row = eager(p, Set.of());
            row.removeAll(can);
            p = row.get(0);
        }
        return walk.subList(walk.indexOf(p), walk.size());
    }

    int needs(int p, boolean lazy) {
        Set<Integer> seen = new HashSet<>();
        reach(p, lazy, seen);
        return bits(seen);
    }

    private void reach(int p, boolean lazy, Set<Integer> seen) {
        for (int n : lazy ? parts.get(p).needs : eager(p, Set.of())) {
            if (seen.add(n)) {
                reach(n, lazy, seen);
            }
        }
    }

    int lost(int p) {
        Set<Integer> those = new HashSet<>();
        those.add(p);
        for (int q = 0; q < parts.size(); q++) {
            if ((needs(q, false) & 1 << p) != 0) {
                those.add(q);
            }
        }
        return bits(those);
    }

    private static int bits(Set<Integer> those) {
        int bits = 0;
        for (int p : those) {
            bits |= 1 << p;
        }
        return bits;
    }

    int wave(int p) {
        return start().contains(p) ? longest(p) - 1 : -1;
    }

    int deep() {
        if (!loop().isEmpty()) {
            return -1;
        }
        int deep = 0;
        for (int p = 0; p < parts.size(); p++) {
            deep = Math.max(deep, longest(p));
        }
        return deep;
    }

    private int longest(int p) {
        int below = 0;
        for (int n : eager(p, Set.of())) {
            below = Math.max(below, longest(n));
        }
        return below + 1;
    }

    /** The least of the shortest rows, or null if 3 are not enough. */
    List<Integer> looser() {
        for (int many = 0; many <= 3; many++) {
            List<Integer> row = firstRow(new ArrayList<>(), 0, many);
            if (row != null) {
                return row;
            }
        }
        return null;
    }

    private List<Integer> firstRow(List<Integer> chosen, int from, int many) {
        if (many == 0) {
            return start(new HashSet<>(chosen)).size() == parts.size() ? chosen : null;
        }
        for (int slot = from; slot < 4 * parts.size(); slot++) {
            Model.Part part = parts.get(slot / 4);
            if (slot % 4 < part.needs.size() && !part.lazy.get(slot % 4)) {
                List<Integer> longer = new ArrayList<>(chosen);
                longer.add(slot);
                List<Integer> row = firstRow(longer, slot + 1, many - 1);
                if (row != null) {
                    return row;
                }
            }
        }
        return null;
    }
}
