/**
 * Carries data from source relations over to target relations by dependencies: a chase that makes
 * what is missing, with nulls where a value is not known, and makes equal what must be equal; then
 * folds the outcome to its core, and answers queries with what is certain.
 *
 * <p>All rows are made with the object and used again: no call makes an object.
 */
public final class MappingChase {
    public static final int NONE = -3;
    public static final int EMPTY = -4;
    public static final int MIXED = -5;
    public static final int HEAD = -6;
    public static final int LOOSE = -7;
    public static final int MANY = -8;
    public static final int CYCLIC = -9;

    private static final int GENERATOR = 0;
    private static final int EQUATION = 1;
    private static final int QUERY = 2;

    private static final int BUILDING = 0;
    private static final int CHASING = 1;
    private static final int FINISHED = 2;
    private static final int FAILED = 3;
    private static final int FULL = 4;

    private static final int CONSTANTS = 16;
    private static final int VALUES = 24;
    private static final int ALL_VALUES = (1 << VALUES) - 1;
    private static final int ALL_CONSTANTS = (1 << CONSTANTS) - 1;
    private static final int SOURCE_RELATIONS = 2;
    private static final int RELATIONS = 6;
    private static final int POSITIONS = 2 * (RELATIONS - SOURCE_RELATIONS);
    private static final int VARIABLES = 4;

    private static final int MOST_IN_BODY = 3;
    private static final int MOST_IN_HEAD = 2;
    private static final int MOST_DEPENDENCIES = 6;
    private static final int MOST_SOURCE_FACTS = 12;
    private static final int MOST_TARGET_FACTS = 24;
    private static final int MOST_TOLD = 10000;

    private final Store store = new Store();
    private final Search search = new Search(store);
    private final Folding folding = new Folding(store);
    private final Graph graph = new Graph();
    private final Rule[] dependencies = new Rule[MOST_DEPENDENCIES];
    private int dependencyCount = 0;
    private Rule draft = new Rule();
    private boolean hasDraft = false;
    private Rule query = new Rule();
    private boolean hasQuery = false;
    private int state = BUILDING;

    public MappingChase() {
        for (int i = 0; i < MOST_DEPENDENCIES; i++) {
            dependencies[i] = new Rule();
        }
    }

    public boolean open(int kind) {
        if (kind != GENERATOR && kind != EQUATION && kind != QUERY) {
            return false;
        }
        draft.begin(kind);
        hasDraft = true;
        return true;
    }

    public int body(int relation, int v, int w) {
        if (!hasDraft || draft.body.count >= MOST_IN_BODY || !isAtom(relation, v, w)) {
            return NONE;
        }
        return draft.body.add(relation, v, w);
    }

    public int head(int relation, int v, int w) {
        if (!hasDraft || draft.kind != GENERATOR || draft.head.count >= MOST_IN_HEAD) {
            return NONE;
        }
        if (!isAtom(relation, v, w)) {
            return NONE;
        }
        return draft.head.add(relation, v, w);
    }

    public boolean pair(int v, int w) {
        if (!hasDraft || draft.kind == GENERATOR || !isVariable(v) || !isVariable(w)) {
            return false;
        }
        draft.setPair(v, w);
        return true;
    }

    public int close() {
        if (!hasDraft || (draft.kind != QUERY && state != BUILDING)) {
            return NONE;
        }
        int fault = draft.faultInside();
        if (fault != 0) {
            return fault;
        }
        if (draft.kind == QUERY) {
            keepQuery();
            return 0;
        }
        return dependencyCount < MOST_DEPENDENCIES ? keepDependency() : MANY;
    }

    public int drop() {
        if (state != BUILDING) {
            return NONE;
        }
        if (dependencyCount > 0) {
            dependencyCount--;
        }
        return dependencyCount;
    }

    public int fact(int relation, int a, int b) {
        if (state != BUILDING || !isSource(relation) || !isConstant(a) || !isConstant(b)) {
            return NONE;
        }
        Relation facts = store.relations[relation];
        if (!facts.has(a, b) && store.sourceCount() >= MOST_SOURCE_FACTS) {
            return MANY;
        }
        facts.add(a, b);
        return store.sourceCount();
    }

    public boolean take(int relation, int a, int b) {
        if (state != BUILDING || !isSource(relation)) {
            return false;
        }
        return store.relations[relation].remove(a, b);
    }

    public boolean acyclic() {
        graph.clear();
        for (int i = 0; i < dependencyCount; i++) {
            if (dependencies[i].kind == GENERATOR) {
                graph.addEdges(dependencies[i]);
            }
        }
        return !graph.hasSpecialCycle();
    }

    public int start() {
        if (state != BUILDING) {
            return NONE;
        }
        if (!acyclic()) {
            return CYCLIC;
        }
        store.clearTargets();
        state = CHASING;
        return 0;
    }

    public int step() {
        return state == CHASING ? chaseOnce() : NONE;
    }

    public int run(int n) {
        if (state != CHASING) {
            return NONE;
        }
        int made = 0;
        while (made < n && chaseOnce() > 0) {
            made++;
        }
        return made;
    }

    public void reset() {
        store.clearTargets();
        state = BUILDING;
    }

    public int state() {
        return state;
    }

    public int size(int relation) {
        return isRelation(relation) ? store.relations[relation].count : NONE;
    }

    public int at(int relation, int k) {
        return isRelation(relation) ? store.relations[relation].factAt(k) : NONE;
    }

    public int nulls() {
        return Integer.bitCount(store.targetValues() >>> CONSTANTS);
    }

    public int fold() {
        if (state != FINISHED) {
            return NONE;
        }
        if (!folding.findMap()) {
            return folding.gaveUp ? MANY : 0;
        }
        int before = store.targetCount();
        store.replaceAll(folding.map);
        return before - store.targetCount();
    }

    public int answers() {
        if (state != FINISHED || !hasQuery) {
            return NONE;
        }
        int count = 0;
        for (int a = 0; a < CONSTANTS; a++) {
            count += Integer.bitCount(search.certainSeconds(query, a));
        }
        return count;
    }

    public int answer(int k) {
        if (state != FINISHED || !hasQuery || k < 0) {
            return NONE;
        }
        int left = k;
        for (int a = 0; a < CONSTANTS; a++) {
            int seconds = search.certainSeconds(query, a);
            int count = Integer.bitCount(seconds);
            if (left < count) {
                return CONSTANTS * a + bitAt(seconds, left);
            }
            left -= count;
        }
        return NONE;
    }

    private static boolean isRelation(int relation) {
        return relation >= 0 && relation < RELATIONS;
    }

    private static boolean isSource(int relation) {
        return relation >= 0 && relation < SOURCE_RELATIONS;
    }

    private static boolean isVariable(int v) {
        return v >= 0 && v < VARIABLES;
    }

    private static boolean isAtom(int relation, int v, int w) {
        return isRelation(relation) && isVariable(v) && isVariable(w);
    }

    private static boolean isConstant(int value) {
        return value >= 0 && value < CONSTANTS;
    }

    private static boolean isValue(int value) {
        return value >= 0 && value < VALUES;
    }

    private static boolean isIn(int set, int member) {
        return (set >>> member & 1) != 0;
    }

    /** The k-th member of a set of values (k from 0), or NONE. */
    private static int bitAt(int set, int k) {
        int left = k;
        for (int member = 0; member < VALUES; member++) {
            if (isIn(set, member)) {
                if (left == 0) {
                    return member;
                }
                left--;
            }
        }
        return NONE;
    }

    /** The rule that the draft displaces serves as the next draft, so that none is made anew. */
    private void keepQuery() {
        Rule free = query;
        query = draft;
        draft = free;
        hasQuery = true;
        hasDraft = false;
    }

    private int keepDependency() {
        int number = dependencyCount;
        Rule free = dependencies[number];
        dependencies[number] = draft;
        draft = free;
        dependencyCount++;
        hasDraft = false;
        return number;
    }

    private int chaseOnce() {
        for (int number = 0; number < dependencyCount; number++) {
            Rule rule = dependencies[number];
            search.forgetValues();
            if (search.findUnsatisfied(rule, 0, rule.settledBy())) {
                boolean done = rule.kind == EQUATION ? makeEqual(rule) : makeFacts(rule);
                return done ? 1 + number : outcome();
            }
        }
        state = FINISHED;
        return 0;
    }

    private int outcome() {
        return state == FAILED ? -1 : -2;
    }

    private boolean makeEqual(Rule rule) {
        int v = search.values[rule.first];
        int w = search.values[rule.second];
        int greater = Math.max(v, w);
        if (isConstant(greater)) {
            state = FAILED;
            return false;
        }
        store.replaceOne(greater, Math.min(v, w));
        return true;
    }

    private boolean makeFacts(Rule rule) {
        if (!search.nameFree(rule)
                || store.targetCount() + search.countMissing(rule.head) > MOST_TARGET_FACTS) {
            state = FULL;
            return false;
        }
        search.addFacts(rule.head);
        return true;
    }

    /** The facts of one relation. They are bits, and so a set that lies in the order of the face. */
    private static final class Relation {
        private final int[] rows = new int[VALUES];
        private final int[] columns = new int[VALUES];
        private int firsts = 0;
        private int seconds = 0;
        private int doubles = 0;
        private int count = 0;

        boolean has(int a, int b) {
            return isValue(a) && isValue(b) && isIn(rows[a], b);
        }

        /** The values that stand behind a. */
        int row(int a) {
            return isValue(a) ? rows[a] : 0;
        }

        /** The values that stand before b. */
        int column(int b) {
            return isValue(b) ? columns[b] : 0;
        }

        void add(int a, int b) {
            if (!isValue(a) || !isValue(b) || isIn(rows[a], b)) {
                return;
            }
            rows[a] |= 1 << b;
            columns[b] |= 1 << a;
            firsts |= 1 << a;
            seconds |= 1 << b;
            if (a == b) {
                doubles |= 1 << a;
            }
            count++;
        }

        boolean remove(int a, int b) {
            if (!has(a, b)) {
                return false;
            }
            rows[a] &= ~(1 << b);
            columns[b] &= ~(1 << a);
            if (rows[a] == 0) {
                firsts &= ~(1 << a);
            }
            if (columns[b] == 0) {
                seconds &= ~(1 << b);
            }
            if (a == b) {
                doubles &= ~(1 << a);
            }
            count--;
            return true;
        }

        void clear() {
            for (int value = 0; value < VALUES; value++) {
                rows[value] = 0;
                columns[value] = 0;
            }
            firsts = 0;
            seconds = 0;
            doubles = 0;
            count = 0;
        }

        int factAt(int k) {
            if (k < 0 || k >= count) {
                return NONE;
            }
            int left = k;
            for (int a = 0; a < VALUES; a++) {
                int inRow = Integer.bitCount(rows[a]);
                if (left < inRow) {
                    return 32 * a + bitAt(rows[a], left);
                }
                left -= inRow;
            }
            return NONE;
        }

        void addRow(int a, int set, int[] map) {
            for (int b = 0; b < VALUES && set >>> b != 0; b++) {
                if (isIn(set, b)) {
                    add(a, map[b]);
                }
            }
        }
    }

    /** The facts of all relations. */
    private static final class Store {
        private final Relation[] relations = new Relation[RELATIONS];
        private final int[] oldRows = new int[VALUES];
        private final int[] oneReplaced = new int[VALUES];

        Store() {
            for (int i = 0; i < RELATIONS; i++) {
                relations[i] = new Relation();
            }
        }

        int sourceCount() {
            int count = 0;
            for (int i = 0; i < SOURCE_RELATIONS; i++) {
                count += relations[i].count;
            }
            return count;
        }

        int targetCount() {
            int count = 0;
            for (int i = SOURCE_RELATIONS; i < RELATIONS; i++) {
                count += relations[i].count;
            }
            return count;
        }

        /** The values that occur in target facts. */
        int targetValues() {
            int set = 0;
            for (int i = SOURCE_RELATIONS; i < RELATIONS; i++) {
                set |= relations[i].firsts | relations[i].seconds;
            }
            return set;
        }

        void clearTargets() {
            for (int i = SOURCE_RELATIONS; i < RELATIONS; i++) {
                relations[i].clear();
            }
        }

        void replaceOne(int value, int other) {
            for (int i = 0; i < VALUES; i++) {
                oneReplaced[i] = i == value ? other : i;
            }
            replaceAll(oneReplaced);
        }

        /** Replaces each value of the target facts by what the map has for it, all at once. */
        void replaceAll(int[] map) {
            for (int i = SOURCE_RELATIONS; i < RELATIONS; i++) {
                Relation relation = relations[i];
                System.arraycopy(relation.rows, 0, oldRows, 0, VALUES);
                relation.clear();
                for (int a = 0; a < VALUES; a++) {
                    relation.addRow(map[a], oldRows[a], map);
                }
            }
        }
    }

    /**
     * Some atoms, each a number: two bits for either variable, the relation above them. So what is
     * read out as a variable is always one.
     */
    private static final class Atoms {
        private final int[] codes = new int[MOST_IN_BODY];
        private int count = 0;

        static int relationOf(int code) {
            return code >> 4;
        }

        static int firstOf(int code) {
            return code >> 2 & 3;
        }

        static int secondOf(int code) {
            return code & 3;
        }

        static boolean isSourceAtom(int code) {
            return isSource(relationOf(code));
        }

        int add(int relation, int v, int w) {
            if (count >= codes.length) {
                return NONE;
            }
            codes[count] = relation << 4 | v << 2 | w;
            count++;
            return count;
        }

        boolean hasVariable(int variable) {
            for (int i = 0; i < count; i++) {
                if (firstOf(codes[i]) == variable || secondOf(codes[i]) == variable) {
                    return true;
                }
            }
            return false;
        }

        int countSources() {
            int sources = 0;
            for (int i = 0; i < count; i++) {
                if (isSourceAtom(codes[i])) {
                    sources++;
                }
            }
            return sources;
        }

        /** The target positions where the variable stands, as a set. */
        int positionsOf(int variable) {
            int set = 0;
            for (int i = 0; i < count; i++) {
                int code = codes[i];
                if (isSourceAtom(code)) {
                    continue;
                }
                int place = 2 * (relationOf(code) - SOURCE_RELATIONS);
                if (firstOf(code) == variable) {
                    set |= 1 << place;
                }
                if (secondOf(code) == variable) {
                    set |= 1 << place + 1;
                }
            }
            return set;
        }
    }

    /** A generator, an equation or a query: a draft of one, or one that is closed. */
    private static final class Rule {
        private final Atoms body = new Atoms();
        private final Atoms head = new Atoms();
        private int kind = GENERATOR;
        private boolean hasPair = false;
        private int first = 0;
        private int second = 0;

        void begin(int newKind) {
            kind = newKind;
            body.count = 0;
            head.count = 0;
            hasPair = false;
        }

        void setPair(int v, int w) {
            first = v;
            second = w;
            hasPair = true;
        }

        /** Why it cannot be closed, whatever else there is in the object; 0 when it can. */
        int faultInside() {
            if (body.count == 0 || (kind == GENERATOR ? head.count == 0 : !hasPair)) {
                return EMPTY;
            }
            int sources = body.countSources();
            if (sources > 0 && (kind != GENERATOR || sources < body.count)) {
                return MIXED;
            }
            if (head.countSources() > 0) {
                return HEAD;
            }
            if (hasPair && !(body.hasVariable(first) && body.hasVariable(second))) {
                return LOOSE;
            }
            return 0;
        }

        boolean isFree(int variable) {
            return head.hasVariable(variable) && !body.hasVariable(variable);
        }

        /** How many of the variables, the least first, settle whether a match is satisfied. */
        int settledBy() {
            if (kind != GENERATOR) {
                return 1 + Math.max(first, second);
            }
            int settled = 0;
            for (int variable = 0; variable < VARIABLES; variable++) {
                if (head.hasVariable(variable) && body.hasVariable(variable)) {
                    settled = variable + 1;
                }
            }
            return settled;
        }
    }

    /** Looks for matches. The variables that have no value yet are UNKNOWN. */
    private static final class Search {
        private static final int UNKNOWN = -1;

        private final Store store;
        private final int[] values = new int[VARIABLES];

        Search(Store store) {
            this.store = store;
        }

        void forgetValues() {
            for (int variable = 0; variable < VARIABLES; variable++) {
                values[variable] = UNKNOWN;
            }
        }

        /** The constants that are certain as the second one with this first one. */
        int certainSeconds(Rule query, int a) {
            int set = 0;
            for (int b = 0; b < CONSTANTS; b++) {
                if (query.first == query.second && a != b) {
                    continue;
                }
                forgetValues();
                values[query.first] = a;
                values[query.second] = b;
                if (knownAreFacts(query.body) && canHold(query.body, 0)) {
                    set |= 1 << b;
                }
            }
            return set;
        }

        /** Gives nulls to the free variables; false when there are not so many. */
        boolean nameFree(Rule rule) {
            int used = store.targetValues();
            for (int variable = 0; variable < VARIABLES; variable++) {
                if (rule.isFree(variable)) {
                    int unused = bitAt(ALL_VALUES & ~ALL_CONSTANTS & ~used, 0);
                    if (!isValue(unused)) {
                        return false;
                    }
                    values[variable] = unused;
                    used |= 1 << unused;
                }
            }
            return true;
        }

        /** How many different facts the atoms are that are not there. */
        int countMissing(Atoms atoms) {
            int missing = 0;
            for (int i = 0; i < atoms.count; i++) {
                if (!isFact(atoms.codes[i]) && !isSameAsEarlier(atoms, i)) {
                    missing++;
                }
            }
            return missing;
        }

        void addFacts(Atoms atoms) {
            for (int i = 0; i < atoms.count; i++) {
                int code = atoms.codes[i];
                store.relations[Atoms.relationOf(code)].add(firstValue(code), secondValue(code));
            }
        }

        private int firstValue(int code) {
            return values[Atoms.firstOf(code)];
        }

        private int secondValue(int code) {
            return values[Atoms.secondOf(code)];
        }

        private boolean isFact(int code) {
            return store.relations[Atoms.relationOf(code)].has(firstValue(code), secondValue(code));
        }

        private boolean isSameAsEarlier(Atoms atoms, int i) {
            int code = atoms.codes[i];
            for (int j = 0; j < i; j++) {
                int earlier = atoms.codes[j];
                if (Atoms.relationOf(earlier) == Atoms.relationOf(code)
                        && firstValue(earlier) == firstValue(code)
                        && secondValue(earlier) == secondValue(code)) {
                    return true;
                }
            }
            return false;
        }

        /**
         * Finds the first match that is not satisfied, giving values to the variables from this one
         * on; they are then those of the match. What is satisfied by the variables that settle it
         * is left at once, since the values of the others cannot change that.
         */
        private boolean findUnsatisfied(Rule rule, int variable, int settledBy) {
            if (variable == settledBy && isSatisfied(rule)) {
                return false;
            }
            if (variable >= VARIABLES) {
                return true;
            }
            if (!rule.body.hasVariable(variable)) {
                return findUnsatisfied(rule, variable + 1, settledBy);
            }
            int allowed = allowedValues(rule.body, variable);
            for (int value = 0; value < VALUES && allowed >>> value != 0; value++) {
                if (isIn(allowed, value)) {
                    values[variable] = value;
                    if (findUnsatisfied(rule, variable + 1, settledBy)) {
                        return true;
                    }
                    values[variable] = UNKNOWN;
                }
            }
            return false;
        }

        private boolean isSatisfied(Rule rule) {
            if (rule.kind == GENERATOR) {
                return knownAreFacts(rule.head) && canHold(rule.head, 0);
            }
            return values[rule.first] == values[rule.second];
        }

        /** Whether the atoms that have no unknown variable are facts. */
        private boolean knownAreFacts(Atoms atoms) {
            for (int i = 0; i < atoms.count; i++) {
                int code = atoms.codes[i];
                boolean known = firstValue(code) != UNKNOWN && secondValue(code) != UNKNOWN;
                if (known && !isFact(code)) {
                    return false;
                }
            }
            return true;
        }

        /**
         * Whether the unknown variables from this one on can be given values so that every atom
         * with one of them is a fact.
         */
        private boolean canHold(Atoms atoms, int variable) {
            if (variable >= VARIABLES) {
                return true;
            }
            if (values[variable] != UNKNOWN || !atoms.hasVariable(variable)) {
                return canHold(atoms, variable + 1);
            }
            int allowed = allowedValues(atoms, variable);
            boolean found = false;
            for (int value = 0; value < VALUES && allowed >>> value != 0 && !found; value++) {
                if (isIn(allowed, value)) {
                    values[variable] = value;
                    found = canHold(atoms, variable + 1);
                }
            }
            values[variable] = UNKNOWN;
            return found;
        }

        /** The values for an unknown variable that fit with those that are known. */
        private int allowedValues(Atoms atoms, int variable) {
            int allowed = ALL_VALUES;
            for (int i = 0; i < atoms.count; i++) {
                allowed &= allowedBy(atoms.codes[i], variable);
            }
            return allowed;
        }

        private int allowedBy(int code, int variable) {
            Relation relation = store.relations[Atoms.relationOf(code)];
            boolean isFirst = Atoms.firstOf(code) == variable;
            boolean isSecond = Atoms.secondOf(code) == variable;
            if (isFirst && isSecond) {
                return relation.doubles;
            }
            if (isFirst) {
                int other = values[Atoms.secondOf(code)];
                return isValue(other) ? relation.columns[other] : relation.firsts;
            }
            if (isSecond) {
                int other = values[Atoms.firstOf(code)];
                return isValue(other) ? relation.rows[other] : relation.seconds;
            }
            return ALL_VALUES;
        }
    }

    /** The edges between the positions of the target relations, a set of ends for each. */
    private static final class Graph {
        private final int[] edges = new int[POSITIONS];
        private final int[] specialEdges = new int[POSITIONS];

        void clear() {
            for (int p = 0; p < POSITIONS; p++) {
                edges[p] = 0;
                specialEdges[p] = 0;
            }
        }

        void addEdges(Rule generator) {
            int free = freePositions(generator);
            for (int variable = 0; variable < VARIABLES; variable++) {
                int to = generator.head.positionsOf(variable);
                if (to != 0) {
                    addEdgesFrom(generator.body.positionsOf(variable), to, free);
                }
            }
        }

        private int freePositions(Rule generator) {
            int set = 0;
            for (int variable = 0; variable < VARIABLES; variable++) {
                if (generator.isFree(variable)) {
                    set |= generator.head.positionsOf(variable);
                }
            }
            return set;
        }

        private void addEdgesFrom(int from, int to, int free) {
            for (int p = 0; p < POSITIONS; p++) {
                if (isIn(from, p)) {
                    edges[p] |= to | free;
                    specialEdges[p] |= free;
                }
            }
        }

        boolean hasSpecialCycle() {
            closeEdges();
            for (int p = 0; p < POSITIONS; p++) {
                for (int q = 0; q < POSITIONS; q++) {
                    if (isIn(specialEdges[p], q) && isIn(edges[q], p)) {
                        return true;
                    }
                }
            }
            return false;
        }

        /** Makes an edge of every way along edges. */
        private void closeEdges() {
            for (int between = 0; between < POSITIONS; between++) {
                for (int p = 0; p < POSITIONS; p++) {
                    if (isIn(edges[p], between)) {
                        edges[p] |= edges[between];
                    }
                }
            }
        }
    }

    /** Looks for the first map that folds. */
    private static final class Folding {
        private final Store store;
        private final int[] map = new int[VALUES];
        private int occurring = 0;
        private int told = 0;
        private boolean gaveUp = false;

        Folding(Store store) {
            this.store = store;
        }

        /** Whether there is such a map; when it is not known, the search gave up. */
        boolean findMap() {
            for (int value = 0; value < VALUES; value++) {
                map[value] = value;
            }
            occurring = store.targetValues();
            told = 0;
            gaveUp = false;
            return tellFrom(CONSTANTS);
        }

        private boolean tellFrom(int value) {
            if (value >= VALUES) {
                return losesNull();
            }
            if (!isIn(occurring, value)) {
                return tellFrom(value + 1);
            }
            for (int image = 0; image < VALUES; image++) {
                if (!isIn(occurring, image)) {
                    continue;
                }
                if (told >= MOST_TOLD) {
                    gaveUp = true;
                    return false;
                }
                told++;
                map[value] = image;
                if (keepsSoFar(value) && tellFrom(value + 1)) {
                    return true;
                }
            }
            return false;
        }

        /**
         * Whether a map that keeps folds. The facts with a null that it tells to none do not come
         * out; and if each null is told to some, it only changes the nulls' names, so all come out.
         */
        private boolean losesNull() {
            return imageOf(occurring) != occurring;
        }

        /** Whether the facts with this null, the last one told, and with told ones alone, stay. */
        private boolean keepsSoFar(int value) {
            int known = (1 << value + 1) - 1;
            int image = map[value];
            for (int i = SOURCE_RELATIONS; i < RELATIONS; i++) {
                Relation relation = store.relations[i];
                int behind = imageOf(relation.row(value) & known);
                int before = imageOf(relation.column(value) & known);
                if ((behind & ~relation.row(image)) != 0 || (before & ~relation.column(image)) != 0) {
                    return false;
                }
            }
            return true;
        }

        private int imageOf(int set) {
            int image = set & ALL_CONSTANTS;
            for (int value = CONSTANTS; value < VALUES && set >>> value != 0; value++) {
                if (isIn(set, value)) {
                    image |= 1 << map[value];
                }
            }
            return image;
        }
    }
}
