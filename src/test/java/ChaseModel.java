import java.util.ArrayList;
import java.util.Arrays;
import java.util.List;
import java.util.TreeMap;
import java.util.TreeSet;

/**
 * The document told again with sorted sets and plain enumeration, to hold MappingChase against. It
 * shares no code and no way of searching with it: matches come from choosing a fact for each atom.
 */
final class ChaseModel {
    static final int NONE = -3;
    static final int MANY = -8;

    /** A relation with two variables or with two values. */
    record Triple(int relation, int a, int b) implements Comparable<Triple> {
        public int compareTo(Triple other) {
            if (relation != other.relation) {
                return Integer.compare(relation, other.relation);
            }
            return a != other.a ? Integer.compare(a, other.a) : Integer.compare(b, other.b);
        }
    }

    static final class Rule {
        final int kind;
        final List<Triple> body = new ArrayList<>();
        final List<Triple> head = new ArrayList<>();
        int[] pair = null;

        Rule(int kind) {
            this.kind = kind;
        }
    }

    private final TreeSet<Triple> sources = new TreeSet<>();
    private TreeSet<Triple> targets = new TreeSet<>();
    private final List<Rule> dependencies = new ArrayList<>();
    private Rule query = null;
    private Rule draft = null;
    private int state = 0;
    /** How many values the last fold told, and how many it may. */
    int told = 0;
    int mostTold = 10000;

    boolean open(int kind) {
        if (kind < 0 || kind > 2) {
            return false;
        }
        draft = new Rule(kind);
        return true;
    }

    private static boolean in(int x, int low, int high) {
        return low <= x && x <= high;
    }

    int body(int relation, int v, int w) {
        if (draft == null || draft.body.size() == 3 || !in(relation, 0, 5) || !in(v, 0, 3) || !in(w, 0, 3)) {
            return NONE;
        }
        draft.body.add(new Triple(relation, v, w));
        return draft.body.size();
    }

    int head(int relation, int v, int w) {
        if (draft == null || draft.kind != 0 || draft.head.size() == 2) {
            return NONE;
        }
        if (!in(relation, 0, 5) || !in(v, 0, 3) || !in(w, 0, 3)) {
            return NONE;
        }
        draft.head.add(new Triple(relation, v, w));
        return draft.head.size();
    }

    boolean pair(int v, int w) {
        if (draft == null || draft.kind == 0 || !in(v, 0, 3) || !in(w, 0, 3)) {
            return false;
        }
        draft.pair = new int[] {v, w};
        return true;
    }

    int close() {
        if (draft == null || draft.kind != 2 && state != 0) {
            return NONE;
        }
        if (draft.body.isEmpty() || draft.kind == 0 && draft.head.isEmpty() || draft.kind != 0 && draft.pair == null) {
            return -4;
        }
        boolean source = draft.body.stream().anyMatch(t -> t.relation < 2);
        boolean target = draft.body.stream().anyMatch(t -> t.relation >= 2);
        if (source && target || source && draft.kind != 0) {
            return -5;
        }
        if (draft.head.stream().anyMatch(t -> t.relation < 2)) {
            return -6;
        }
        if (draft.kind != 0) {
            TreeSet<Integer> inBody = variables(draft.body);
            if (!inBody.contains(draft.pair[0]) || !inBody.contains(draft.pair[1])) {
                return -7;
            }
        }
        if (draft.kind != 2 && dependencies.size() == 6) {
            return MANY;
        }
        Rule closed = draft;
        draft = null;
        if (closed.kind == 2) {
            query = closed;
            return 0;
        }
        dependencies.add(closed);
        return dependencies.size() - 1;
    }

    int drop() {
        if (state != 0) {
            return NONE;
        }
        if (!dependencies.isEmpty()) {
            dependencies.remove(dependencies.size() - 1);
        }
        return dependencies.size();
    }

    int fact(int relation, int a, int b) {
        if (state != 0 || !in(relation, 0, 1) || !in(a, 0, 15) || !in(b, 0, 15)) {
            return NONE;
        }
        Triple fact = new Triple(relation, a, b);
        if (!sources.contains(fact) && sources.size() == 12) {
            return MANY;
        }
        sources.add(fact);
        return sources.size();
    }

    boolean take(int relation, int a, int b) {
        return state == 0 && sources.remove(new Triple(relation, a, b));
    }

    /** Walks from every position, once without and once with a special edge on the way. */
    boolean acyclic() {
        for (int start = 4; start < 12; start++) {
            TreeSet<Integer> seen = new TreeSet<>();
            walk(start, false, seen);
            if (seen.contains(100 + start)) {
                return false;
            }
        }
        return true;
    }

    /** A position is 2 * relation + place; 100 more when it was reached with a special edge. */
    private void walk(int from, boolean special, TreeSet<Integer> seen) {
        for (Rule rule : dependencies) {
            if (rule.kind != 0 || rule.body.get(0).relation < 2) {
                continue;
            }
            TreeSet<Integer> inBody = variables(rule.body);
            for (int x : inBody) {
                if (!variables(rule.head).contains(x) || !positions(rule.body, x).contains(from)) {
                    continue;
                }
                for (int y : variables(rule.head)) {
                    boolean free = !inBody.contains(y);
                    if (!free && y != x) {
                        continue;
                    }
                    for (int to : positions(rule.head, y)) {
                        if (seen.add(to + (special || free ? 100 : 0))) {
                            walk(to, special || free, seen);
                        }
                    }
                }
            }
        }
    }

    private static List<Integer> positions(List<Triple> atoms, int variable) {
        List<Integer> list = new ArrayList<>();
        for (Triple atom : atoms) {
            if (atom.a == variable) {
                list.add(2 * atom.relation);
            }
            if (atom.b == variable) {
                list.add(2 * atom.relation + 1);
            }
        }
        return list;
    }

    private static TreeSet<Integer> variables(List<Triple> atoms) {
        TreeSet<Integer> set = new TreeSet<>();
        for (Triple atom : atoms) {
            set.add(atom.a);
            set.add(atom.b);
        }
        return set;
    }

    int start() {
        if (state != 0) {
            return NONE;
        }
        if (!acyclic()) {
            return -9;
        }
        state = 1;
        targets.clear();
        return 0;
    }

    int step() {
        if (state != 1) {
            return NONE;
        }
        for (int number = 0; number < dependencies.size(); number++) {
            Rule rule = dependencies.get(number);
            for (int[] match : matches(rule.body, new int[] {-1, -1, -1, -1})) {
                if (!satisfied(rule, match)) {
                    return apply(rule, number, match);
                }
            }
        }
        state = 2;
        return 0;
    }

    private boolean satisfied(Rule rule, int[] match) {
        if (rule.kind == 1) {
            return match[rule.pair[0]] == match[rule.pair[1]];
        }
        return !matches(rule.head, match).isEmpty();
    }

    private int apply(Rule rule, int number, int[] match) {
        if (rule.kind == 1) {
            int low = Math.min(match[rule.pair[0]], match[rule.pair[1]]);
            int high = Math.max(match[rule.pair[0]], match[rule.pair[1]]);
            if (high < 16) {
                state = 3;
                return -1;
            }
            TreeMap<Integer, Integer> map = new TreeMap<>();
            map.put(high, low);
            targets = image(map);
            return 1 + number;
        }
        TreeSet<Integer> used = values();
        for (int v : variables(rule.head)) {
            if (match[v] < 0) {
                int next = 16;
                while (used.contains(next)) {
                    next++;
                }
                match[v] = next;
                used.add(next);
            }
        }
        TreeSet<Triple> then = new TreeSet<>(targets);
        for (Triple atom : rule.head) {
            then.add(new Triple(atom.relation, match[atom.a], match[atom.b]));
        }
        if (used.stream().anyMatch(x -> x > 23) || then.size() > 24) {
            state = 4;
            return -2;
        }
        targets = then;
        return 1 + number;
    }

    /** All ways to give the variables below 0 values so that the atoms are facts, in their order. */
    private List<int[]> matches(List<Triple> atoms, int[] given) {
        List<int[]> found = new ArrayList<>();
        choose(atoms, 0, given, found);
        found.sort(Arrays::compare);
        return found;
    }

    private void choose(List<Triple> atoms, int i, int[] given, List<int[]> found) {
        if (i == atoms.size()) {
            found.add(given.clone());
            return;
        }
        Triple atom = atoms.get(i);
        for (Triple fact : atom.relation < 2 ? sources : targets) {
            if (fact.relation != atom.relation) {
                continue;
            }
            int[] next = given.clone();
            if (next[atom.a] < 0) {
                next[atom.a] = fact.a;
            }
            if (next[atom.b] < 0) {
                next[atom.b] = fact.b;
            }
            if (next[atom.a] == fact.a && next[atom.b] == fact.b) {
                choose(atoms, i + 1, next, found);
            }
        }
    }

    int run(int n) {
        if (state != 1) {
            return NONE;
        }
        int made = 0;
        while (made < n && state == 1) {
            if (step() > 0) {
                made++;
            }
        }
        return made;
    }

    void reset() {
        state = 0;
        targets.clear();
    }

    int state() {
        return state;
    }

    private List<Triple> of(int relation) {
        List<Triple> list = new ArrayList<>();
        for (Triple fact : relation < 2 ? sources : targets) {
            if (fact.relation == relation) {
                list.add(fact);
            }
        }
        return list;
    }

    int size(int relation) {
        return in(relation, 0, 5) ? of(relation).size() : NONE;
    }

    int at(int relation, int k) {
        if (!in(relation, 0, 5) || k < 0 || k >= of(relation).size()) {
            return NONE;
        }
        Triple fact = of(relation).get(k);
        return 32 * fact.a + fact.b;
    }

    private TreeSet<Integer> values() {
        TreeSet<Integer> set = new TreeSet<>();
        for (Triple fact : targets) {
            set.add(fact.a);
            set.add(fact.b);
        }
        return set;
    }

    int nulls() {
        return values().tailSet(16).size();
    }

    private TreeSet<Triple> image(TreeMap<Integer, Integer> map) {
        TreeSet<Triple> set = new TreeSet<>();
        for (Triple fact : targets) {
            set.add(new Triple(fact.relation, map.getOrDefault(fact.a, fact.a), map.getOrDefault(fact.b, fact.b)));
        }
        return set;
    }

    int fold() {
        if (state != 2) {
            return NONE;
        }
        told = 0;
        TreeMap<Integer, Integer> map = new TreeMap<>();
        List<Integer> nulls = new ArrayList<>(values().tailSet(16));
        int outcome = tell(nulls, 0, map);
        if (outcome != 1) {
            return outcome;
        }
        int before = targets.size();
        targets = image(map);
        return before - targets.size();
    }

    /** 1 when the map folds, 0 when none does with what is told so far, MANY when it is too long. */
    private int tell(List<Integer> nulls, int i, TreeMap<Integer, Integer> map) {
        if (i == nulls.size()) {
            return image(map).equals(targets) ? 0 : 1;
        }
        for (int value : values()) {
            if (told == mostTold) {
                return MANY;
            }
            told++;
            map.put(nulls.get(i), value);
            int outcome = keeps(map) ? tell(nulls, i + 1, map) : 0;
            if (outcome != 0) {
                return outcome;
            }
        }
        map.remove(nulls.get(i));
        return 0;
    }

    private boolean keeps(TreeMap<Integer, Integer> map) {
        for (Triple fact : targets) {
            boolean all = (fact.a < 16 || map.containsKey(fact.a)) && (fact.b < 16 || map.containsKey(fact.b));
            int a = map.getOrDefault(fact.a, fact.a);
            int b = map.getOrDefault(fact.b, fact.b);
            if (all && !targets.contains(new Triple(fact.relation, a, b))) {
                return false;
            }
        }
        return true;
    }

    private List<Integer> certain() {
        TreeSet<Integer> set = new TreeSet<>();
        for (int[] match : matches(query.body, new int[] {-1, -1, -1, -1})) {
            int a = match[query.pair[0]];
            int b = match[query.pair[1]];
            if (a < 16 && b < 16) {
                set.add(16 * a + b);
            }
        }
        return new ArrayList<>(set);
    }

    int answers() {
        return state != 2 || query == null ? NONE : certain().size();
    }

    int answer(int k) {
        if (state != 2 || query == null || k < 0 || k >= certain().size()) {
            return NONE;
        }
        return certain().get(k);
    }
}
