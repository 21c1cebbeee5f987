/** Promises 1 to 10: a new object, drafts, dependencies, the query, source facts, acyclic. */
public final class BuildingTest {
    private static final int[] NO_VARIABLES = {-1, 4, Integer.MIN_VALUE, Integer.MAX_VALUE};
    private static final int[] NO_RELATIONS = {-1, 6, Integer.MIN_VALUE, Integer.MAX_VALUE};
    private static final int[] NO_CONSTANTS = {-1, 16, 24, Integer.MIN_VALUE, Integer.MAX_VALUE};

    private static final Checks CHECKS = new Checks();

    public static void main(String[] args) {
        newObject();
        open();
        body();
        head();
        pair();
        closeNumbers();
        closeRefuses();
        closeRefusesInOrder();
        closeInOtherStates();
        drop();
        fact();
        take();
        takeBeforeChase();
        acyclic();
        CHECKS.end();
    }

    private static void due(String call, long got, long want) {
        CHECKS.due(call, got, want);
    }

    private static void due(String call, boolean got, boolean want) {
        CHECKS.due(call, got, want);
    }

    private static int[] atom(int relation, int v, int w) {
        return Scenes.atom(relation, v, w);
    }

    private static MappingChase opened(int kind) {
        MappingChase x = new MappingChase();
        x.open(kind);
        return x;
    }

    private static void newObject() {
        MappingChase x = new MappingChase();
        due("new: state", x.state(), 0);
        for (int relation = 0; relation < 6; relation++) {
            due("new: size " + relation, x.size(relation), 0);
            due("new: at " + relation, x.at(relation, 0), MappingChase.NONE);
        }
        due("new: nulls", x.nulls(), 0);
        due("new: no draft for body", x.body(2, 0, 0), MappingChase.NONE);
        due("new: no draft for head", x.head(2, 0, 0), MappingChase.NONE);
        due("new: no draft for pair", x.pair(0, 0), false);
        due("new: no draft to close", x.close(), MappingChase.NONE);
        due("new: drop", x.drop(), 0);
        due("new: acyclic", x.acyclic(), true);
        due("new: start", x.start(), 0);
        due("new: step", x.step(), 0);
        due("new: state after step", x.state(), 2);
        due("new: answers", x.answers(), MappingChase.NONE);
        due("new: answer", x.answer(0), MappingChase.NONE);
        due("new: fold", x.fold(), 0);
    }

    private static void open() {
        for (int kind = 0; kind < 3; kind++) {
            due("open " + kind, new MappingChase().open(kind), true);
        }
        for (int kind : new int[] {-1, 3, Integer.MIN_VALUE, Integer.MAX_VALUE}) {
            MappingChase x = opened(0);
            x.body(2, 0, 1);
            due("open wrong kind", x.open(kind), false);
            due("open refused, the draft stays", x.body(2, 0, 1), 2);
        }
        MappingChase x = opened(0);
        x.body(0, 0, 1);
        x.head(2, 0, 1);
        due("open in place", x.open(0), true);
        due("open in place: close", x.close(), MappingChase.EMPTY);
        due("open in place: body", x.body(0, 0, 1), 1);
        due("open in place: head", x.head(2, 0, 1), 1);
        x.open(1);
        x.pair(0, 0);
        x.open(2);
        x.body(2, 0, 0);
        due("open in place: no pair", x.close(), MappingChase.EMPTY);
        for (int state = 0; state < 5; state++) {
            due("open in state " + state, Scenes.inState(state).open(0), true);
        }
    }

    private static void body() {
        for (int kind = 0; kind < 3; kind++) {
            MappingChase x = opened(kind);
            for (int wrong : NO_RELATIONS) {
                due("body relation " + wrong, x.body(wrong, 0, 0), MappingChase.NONE);
            }
            for (int wrong : NO_VARIABLES) {
                due("body first " + wrong, x.body(2, wrong, 0), MappingChase.NONE);
                due("body second " + wrong, x.body(2, 0, wrong), MappingChase.NONE);
            }
            due("body 1", x.body(0, 0, 3), 1);
            due("body 2", x.body(5, 3, 0), 2);
            due("body 3", x.body(5, 3, 0), 3);
            due("body 4", x.body(2, 0, 0), MappingChase.NONE);
        }
    }

    private static void head() {
        MappingChase x = opened(0);
        for (int wrong : NO_RELATIONS) {
            due("head relation " + wrong, x.head(wrong, 0, 0), MappingChase.NONE);
        }
        for (int wrong : NO_VARIABLES) {
            due("head first " + wrong, x.head(2, wrong, 0), MappingChase.NONE);
            due("head second " + wrong, x.head(2, 0, wrong), MappingChase.NONE);
        }
        due("head 1", x.head(5, 3, 3), 1);
        due("head 2", x.head(0, 0, 0), 2);
        due("head 3", x.head(2, 0, 0), MappingChase.NONE);
        due("head of an equation", opened(1).head(2, 0, 0), MappingChase.NONE);
        due("head of a query", opened(2).head(2, 0, 0), MappingChase.NONE);
    }

    private static void pair() {
        due("pair of a generator", opened(0).pair(0, 0), false);
        for (int kind = 1; kind < 3; kind++) {
            MappingChase x = opened(kind);
            for (int wrong : NO_VARIABLES) {
                due("pair first " + wrong, x.pair(wrong, 0), false);
                due("pair second " + wrong, x.pair(0, wrong), false);
            }
            x.body(2, 0, 1);
            due("pair refused is none", x.close(), MappingChase.EMPTY);
            due("pair", x.pair(3, 3), true);
            due("pair refused", x.pair(0, 4), false);
            due("pair stays", x.close(), MappingChase.LOOSE);
            due("pair again", x.pair(1, 0), true);
            due("pair closes", x.close(), 0);
        }
        MappingChase x = Scenes.copying();
        Scenes.facts(x, 0, 1, 2);
        x.open(2);
        x.body(2, 0, 1);
        x.pair(0, 1);
        x.pair(1, 0);
        x.close();
        Scenes.chase(x);
        due("pair, the last one counts", x.answer(0), 33);
    }

    private static void closeNumbers() {
        MappingChase x = new MappingChase();
        due("close 0", Scenes.generator(x, atom(0, 0, 1), atom(2, 0, 1)), 0);
        due("close, no draft then", x.close(), MappingChase.NONE);
        due("close, no draft for body", x.body(2, 0, 0), MappingChase.NONE);
        due("close 1", Scenes.equation(x, 0, 1, atom(2, 0, 1)), 1);
        due("close a query", Scenes.query(x, 0, 1, atom(2, 0, 1)), 0);
        due("close a query, no draft then", x.close(), MappingChase.NONE);
        due("close a query, no draft for pair", x.pair(0, 0), false);
        due("close 2", Scenes.generator(x, atom(2, 0, 1), atom(3, 0, 1)), 2);
        due("close 3", Scenes.generator(x, atom(1, 0, 1), atom(3, 0, 1)), 3);
        due("close 4", Scenes.equation(x, 0, 0, atom(2, 0, 1)), 4);
        due("close 5", Scenes.generator(x, atom(1, 0, 1), atom(3, 2, 3), atom(3, 2, 3)), 5);
        due("close 6", Scenes.equation(x, 0, 0, atom(2, 0, 1)), MappingChase.MANY);
        due("close many, the draft stays", x.body(2, 0, 0), 2);
        due("close a query beside six", Scenes.query(x, 1, 1, atom(2, 0, 1)), 0);
        due("close a query again", Scenes.query(x, 1, 1, atom(3, 0, 1)), 0);
        due("close many generators", Scenes.generator(x, atom(0, 0, 1), atom(2, 0, 1)), MappingChase.MANY);
        x.drop();
        due("close 5 again", x.close(), 5);
    }

    private static void closeRefuses() {
        MappingChase x = opened(0);
        due("close no body", x.close(), MappingChase.EMPTY);
        x.head(2, 0, 0);
        due("close no body but a head", x.close(), MappingChase.EMPTY);
        x = opened(0);
        x.body(0, 0, 0);
        due("close no head", x.close(), MappingChase.EMPTY);
        for (int kind = 1; kind < 3; kind++) {
            x = opened(kind);
            x.pair(0, 0);
            due("close a pair alone", x.close(), MappingChase.EMPTY);
            x = opened(kind);
            x.body(2, 0, 0);
            due("close no pair", x.close(), MappingChase.EMPTY);
            x.pair(0, 1);
            due("close loose second", x.close(), MappingChase.LOOSE);
            x.pair(2, 0);
            due("close loose first", x.close(), MappingChase.LOOSE);
            x.pair(0, 0);
            x.body(1, 0, 0);
            due("close a source relation", x.close(), MappingChase.MIXED);
            x = opened(kind);
            x.body(0, 0, 0);
            x.pair(0, 0);
            due("close source relations", x.close(), MappingChase.MIXED);
        }
        x = opened(0);
        x.body(2, 0, 0);
        x.body(2, 0, 0);
        x.body(1, 0, 0);
        x.head(2, 0, 0);
        due("close mixed", x.close(), MappingChase.MIXED);
        x = opened(0);
        x.body(1, 0, 0);
        x.body(0, 0, 0);
        x.head(2, 0, 0);
        x.head(1, 0, 0);
        due("close a source head", x.close(), MappingChase.HEAD);
        due("close refused, the draft stays", x.body(0, 0, 0), 3);
        due("close refused, nothing is made", x.drop(), 0);
    }

    private static void closeRefusesInOrder() {
        MappingChase x = opened(0);
        x.body(0, 0, 0);
        x.body(2, 0, 0);
        due("EMPTY before MIXED", x.close(), MappingChase.EMPTY);
        x.head(0, 0, 0);
        due("MIXED before HEAD", x.close(), MappingChase.MIXED);
        x = opened(1);
        x.body(0, 0, 0);
        x.pair(3, 3);
        due("MIXED before LOOSE", x.close(), MappingChase.MIXED);
        x = new MappingChase();
        for (int i = 0; i < 6; i++) {
            Scenes.generator(x, atom(0, 0, 1), atom(2, 0, 1));
        }
        due("HEAD before MANY", Scenes.generator(x, atom(0, 0, 1), atom(1, 0, 1)), MappingChase.HEAD);
        due("LOOSE before MANY", Scenes.equation(x, 0, 3, atom(2, 0, 1)), MappingChase.LOOSE);
        due("EMPTY before MANY", Scenes.equation(x, 0, 3), MappingChase.EMPTY);
        x.start();
        due("NONE before EMPTY", Scenes.equation(x, 0, 3), MappingChase.NONE);
    }

    private static void closeInOtherStates() {
        for (int state = 1; state < 5; state++) {
            MappingChase x = Scenes.inState(state);
            due("close a generator in state " + state,
                    Scenes.generator(x, atom(0, 0, 1), atom(2, 0, 1)), MappingChase.NONE);
            due("close refused, the draft stays", x.body(0, 0, 0), 2);
            due("close an equation in state " + state,
                    Scenes.equation(x, 0, 1, atom(2, 0, 1)), MappingChase.NONE);
            x.reset();
            due("close after reset", x.close(), state > 2 ? 2 : 1);
            x = Scenes.inState(state);
            due("close a query in state " + state, Scenes.query(x, 0, 1, atom(2, 0, 1)), 0);
            due("close a wrong query in state " + state, Scenes.query(x, 0, 1, atom(1, 0, 1)), MappingChase.MIXED);
        }
    }

    private static void drop() {
        MappingChase x = Scenes.copying();
        x.open(1);
        due("drop to 1", x.drop(), 1);
        due("drop, the draft stays", x.body(2, 0, 1), 1);
        Scenes.facts(x, 0, 1, 2);
        Scenes.facts(x, 1, 3, 4);
        Scenes.chase(x);
        due("drop took the last one", x.size(2) * 10 + x.size(3), 10);
        x.reset();
        due("drop to 0", x.drop(), 0);
        due("drop none", x.drop(), 0);
        due("drop, the next is number 0", Scenes.generator(x, atom(0, 0, 1), atom(2, 0, 1)), 0);
        for (int state = 1; state < 5; state++) {
            due("drop in state " + state, Scenes.inState(state).drop(), MappingChase.NONE);
        }
    }

    private static void fact() {
        MappingChase x = new MappingChase();
        for (int wrong : new int[] {-1, 2, 3, 4, 5, 6, Integer.MIN_VALUE, Integer.MAX_VALUE}) {
            due("fact relation " + wrong, x.fact(wrong, 0, 0), MappingChase.NONE);
        }
        for (int wrong : NO_CONSTANTS) {
            due("fact first " + wrong, x.fact(0, wrong, 0), MappingChase.NONE);
            due("fact second " + wrong, x.fact(1, 0, wrong), MappingChase.NONE);
        }
        for (int i = 0; i < 12; i++) {
            due("fact " + i, x.fact(i % 2, i, 15 - i), i + 1);
            due("fact again " + i, x.fact(i % 2, i, 15 - i), i + 1);
        }
        due("fact 13", x.fact(0, 15, 15), MappingChase.MANY);
        due("fact 13, not there in this relation", x.fact(1, 0, 15), MappingChase.MANY);
        due("fact that is there among 12", x.fact(0, 0, 15), 12);
        due("fact wrong among 12", x.fact(0, 16, 15), MappingChase.NONE);
        due("fact sizes", x.size(0) * 10 + x.size(1), 66);
        x.take(0, 0, 15);
        due("fact 12 again", x.fact(0, 15, 15), 12);
        for (int state = 1; state < 5; state++) {
            x = Scenes.inState(state);
            int size = x.size(0);
            due("fact in state " + state, x.fact(0, 9, 9), MappingChase.NONE);
            due("fact that is there in state " + state, x.fact(0, 1, 2), MappingChase.NONE);
            due("fact refused in state " + state, x.size(0), size);
        }
    }

    private static void take() {
        MappingChase x = new MappingChase();
        Scenes.facts(x, 0, 1, 2, 3, 3);
        due("take the other way round", x.take(0, 2, 1), false);
        due("take of the other relation", x.take(1, 1, 2), false);
        due("take", x.take(0, 1, 2), true);
        due("take again", x.take(0, 1, 2), false);
        due("take, one is left", x.size(0), 1);
        due("take, which is left", x.at(0, 0), 99);
        for (int wrong : NO_RELATIONS) {
            due("take relation " + wrong, x.take(wrong, 3, 3), false);
        }
        for (int wrong : NO_CONSTANTS) {
            due("take first " + wrong, x.take(0, wrong, 3), false);
            due("take second " + wrong, x.take(0, 3, wrong), false);
        }
        due("take a target relation", x.take(2, 3, 3), false);
        for (int state = 1; state < 5; state++) {
            x = Scenes.inState(state);
            int sizes = x.size(0) * 100 + x.size(2);
            due("take in state " + state, x.take(0, 1, 2), false);
            due("take a target fact in state " + state, x.take(2, 1, 2), false);
            due("take refused in state " + state, x.size(0) * 100 + x.size(2), sizes);
        }
    }

    /** What is taken has no match any more, and what is left still has its own. */
    private static void takeBeforeChase() {
        MappingChase x = new MappingChase();
        Scenes.generator(x, atom(0, 0, 1), atom(2, 0, 1));
        Scenes.generator(x, atom(0, 0, 0), atom(3, 0, 0));
        x.open(0);
        x.body(0, 0, 2);
        x.body(0, 1, 2);
        x.head(4, 0, 1);
        x.close();
        Scenes.facts(x, 0, 1, 2, 1, 3, 4, 3, 5, 5, 6, 6, 6, 7, 7, 6);
        x.take(0, 1, 3);
        x.take(0, 5, 5);
        x.take(0, 6, 7);
        Scenes.chase(x);
        due("take, then the pairs", x.size(2), 4);
        due("take, then the doubles", x.size(3) * 1000 + x.at(3, 0), 1198);
        due("take, then the join", x.size(4), 6);
    }

    private static boolean isAcyclic(int[][]... generators) {
        MappingChase x = new MappingChase();
        for (int[][] g : generators) {
            x.open(0);
            x.body(g[0][0], g[0][1], g[0][2]);
            for (int i = 1; i < g.length; i++) {
                x.head(g[i][0], g[i][1], g[i][2]);
            }
            x.close();
        }
        due("start agrees with acyclic", x.start(), x.acyclic() ? 0 : MappingChase.CYCLIC);
        return x.acyclic();
    }

    private static int[][] rule(int[]... atoms) {
        return atoms;
    }

    private static void acyclic() {
        due("a special edge to its own place", isAcyclic(rule(atom(2, 0, 1), atom(2, 1, 2))), false);
        due("a special edge to the other place", isAcyclic(rule(atom(2, 0, 1), atom(2, 0, 2))), true);
        due("a cycle of ordinary edges", isAcyclic(rule(atom(2, 0, 1), atom(2, 1, 0))), true);
        due("a source body has no edges", isAcyclic(rule(atom(0, 0, 1), atom(2, 1, 2))), true);
        due("a variable that is not in the head has no edges",
                isAcyclic(rule(atom(2, 0, 1), atom(2, 2, 3))), true);
        due("a special edge onwards", isAcyclic(rule(atom(2, 0, 1), atom(3, 1, 2))), true);
        due("a special edge with a way back by an ordinary one",
                isAcyclic(rule(atom(2, 0, 1), atom(3, 1, 2)), rule(atom(3, 0, 1), atom(2, 0, 1))), false);
        due("a special edge whose end has no way back",
                isAcyclic(rule(atom(2, 0, 1), atom(3, 1, 2)), rule(atom(3, 0, 1), atom(2, 0, 0))), true);
        due("a long way back over four relations",
                isAcyclic(rule(atom(2, 0, 0), atom(3, 1, 0)), rule(atom(3, 0, 1), atom(4, 0, 0)),
                        rule(atom(4, 0, 1), atom(5, 1, 1)), rule(atom(5, 0, 1), atom(2, 1, 2))), false);
        due("two special edges after one another",
                isAcyclic(rule(atom(2, 0, 1), atom(3, 1, 2)), rule(atom(3, 0, 1), atom(4, 1, 2))), true);
        due("two special edges in a ring",
                isAcyclic(rule(atom(2, 0, 1), atom(3, 1, 2)), rule(atom(3, 0, 1), atom(2, 1, 2))), false);
        MappingChase x = new MappingChase();
        Scenes.equation(x, 0, 1, atom(2, 0, 1));
        due("equations have no edges", x.acyclic(), true);
        x = new MappingChase();
        Scenes.generator(x, atom(2, 0, 1), atom(2, 1, 2));
        due("cyclic", x.acyclic(), false);
        x.drop();
        due("acyclic when dropped", x.acyclic(), true);
        x.open(0);
        x.body(2, 0, 1);
        x.body(3, 1, 2);
        x.head(4, 2, 3);
        x.head(3, 3, 3);
        x.close();
        due("of a body of two: the special edge from the second place of relation 3", x.acyclic(), false);
        for (int state = 0; state < 5; state++) {
            due("acyclic in state " + state, Scenes.inState(state).acyclic(), true);
        }
    }
}
