/** Promises 11 and 13 to 15, sentence by sentence: start, run, reset, state. Step has its own test. */
public final class ChaseEdgesTest {
    private static final Sentences SENTENCES = new Sentences();

    public static void main(String[] args) {
        start();
        runCounts();
        runEnds();
        reset();
        state();
        SENTENCES.end();
    }

    private static void holds(String words, Runnable test) {
        SENTENCES.holds(words, test);
    }

    private static void due(String call, long got, long want) {
        SENTENCES.due(call, got, want);
    }

    private static int targets(MappingChase x) {
        return x.size(2) + x.size(3) + x.size(4) + x.size(5);
    }

    private static void start() {
        holds("11: the state becomes CHASING, with no target facts: 0", () -> {
            MappingChase x = Scenes.inState(0);
            due("start", x.start(), 0);
            due("state", x.state(), 1);
            due("target facts", targets(x), 0);
            due("nulls", x.nulls(), 0);
        });
        holds("11: with no facts and no dependencies", () -> {
            MappingChase x = new MappingChase();
            due("start", x.start(), 0);
            due("state", x.state(), 1);
        });
        holds("11: with no target facts, also when there were some before", () -> {
            MappingChase x = Scenes.inState(2);
            due("before", targets(x), 1);
            x.reset();
            due("start", x.start(), 0);
            due("target facts", targets(x), 0);
        });
        holds("11: NONE, refused, when the state is not BUILDING", () -> {
            for (int state = 1; state < 5; state++) {
                int number = state;
                SENTENCES.refused("state " + state, () -> Scenes.inState(number), MappingChase::start);
            }
        });
        holds("11: CYCLIC, refused, when the dependencies are not acyclic", () -> {
            SENTENCES.refused("one", () -> Scenes.facts(Scenes.of("2:01 -> 2:12"), 0, 1, 2), MappingChase::start,
                    MappingChase.CYCLIC);
            SENTENCES.refused("two", () -> Scenes.facts(Scenes.of("0:01 -> 2:01", "2:01 -> 3:12", "3:01 -> 2:01"), 0, 1, 2),
                    MappingChase::start, MappingChase.CYCLIC);
        });
        holds("11: when they are acyclic again, it is not refused", () -> {
            MappingChase x = Scenes.facts(Scenes.of("0:01 -> 2:01", "2:01 -> 2:12"), 0, 1, 2);
            due("cyclic", x.start(), MappingChase.CYCLIC);
            due("still building", x.state(), 0);
            x.drop();
            due("start", x.start(), 0);
            due("run", x.run(9), 1);
        });
    }

    /** Three steps that answer more than 0, the third by an equation; then it is finished. */
    private static MappingChase threeSteps() {
        MappingChase x = Scenes.of("0:01 -> 2:02", "2:01 2:31 3:31 = 01", "2:01 2:32 = 12");
        Scenes.facts(x, 0, 1, 1, 2, 2);
        x.start();
        return x;
    }

    private static void runCounts() {
        holds("13: until n of them answered more than 0", () -> {
            for (int n = 1; n <= 3; n++) {
                MappingChase x = threeSteps();
                due("run " + n, x.run(n), n);
                due("still chasing", x.state(), 1);
                due("as so many steps made", x.size(2), n == 1 ? 1 : 2);
                due("as so many steps made", x.nulls(), n == 2 ? 2 : 1);
                due("the rest", x.run(9), 3 - n);
                due("finished", x.state(), 2);
            }
        });
        holds("13: none for n below 1", () -> {
            for (int n : new int[] {0, -1, -2, Integer.MIN_VALUE, Integer.MIN_VALUE + 1}) {
                SENTENCES.refused("run " + n, ChaseEdgesTest::threeSteps, x -> x.run(n), 0);
                SENTENCES.refused("run " + n + " where none is left", () -> {
                    MappingChase x = threeSteps();
                    x.run(3);
                    return x;
                }, x -> x.run(n), 0);
            }
        });
        holds("13: for n below 1 a step that would fail, or be full, is not made", () -> {
            MappingChase x = Scenes.facts(Scenes.of("0:01 -> 2:01", "2:01 = 01"), 0, 1, 2);
            x.start();
            x.run(1);
            due("run 0", x.run(0), 0);
            due("run -1", x.run(-1), 0);
            due("state", x.state(), 1);
            due("step", x.step(), -1);
        });
        holds("13: NONE, refused, when the state is not CHASING", () -> {
            for (int state : new int[] {0, 2, 3, 4}) {
                for (int n : new int[] {Integer.MIN_VALUE, -1, 0, 1, 2, Integer.MAX_VALUE}) {
                    SENTENCES.refused("run " + n + " in state " + state, () -> Scenes.inState(state), x -> x.run(n));
                }
            }
        });
    }

    private static void runEnds() {
        holds("13: or the state is not CHASING: FINISHED", () -> {
            for (int n : new int[] {4, 5, 1000, Integer.MAX_VALUE - 1, Integer.MAX_VALUE}) {
                MappingChase x = threeSteps();
                due("run " + n, x.run(n), 3);
                due("state", x.state(), 2);
            }
            MappingChase x = new MappingChase();
            x.start();
            due("run 1 with nothing to do", x.run(1), 0);
            due("state", x.state(), 2);
        });
        holds("13: or the state is not CHASING: FAILED", () -> {
            MappingChase x = Scenes.facts(Scenes.of("0:01 -> 2:01", "2:01 = 01"), 0, 1, 2, 3, 4);
            x.start();
            due("the failed one does not count", x.run(3), 2);
            due("state", x.state(), 3);
            x.reset();
            x.start();
            x.run(2);
            due("at once", x.run(1), 0);
            due("state", x.state(), 3);
        });
        holds("13: or the state is not CHASING: FULL", () -> {
            MappingChase x = Scenes.of("0:01 -> 2:02");
            for (int i = 0; i < 9; i++) {
                x.fact(0, i, i);
            }
            x.start();
            due("the full one does not count", x.run(9), 8);
            due("state", x.state(), 4);
            x.reset();
            x.start();
            x.run(8);
            due("at once", x.run(1), 0);
            due("state", x.state(), 4);
        });
    }

    private static MappingChase withAll(int state) {
        MappingChase x = Scenes.inState(state);
        Scenes.close(x, "2:01 ? 10");
        return Scenes.draft(x, "2:01 -> 5:10");
    }

    private static void reset() {
        holds("14: the state becomes BUILDING", () -> {
            for (int state = 0; state < 5; state++) {
                MappingChase x = Scenes.inState(state);
                x.reset();
                due("from state " + state, x.state(), 0);
            }
        });
        holds("14: with no target facts", () -> {
            for (int state = 0; state < 5; state++) {
                MappingChase x = Scenes.inState(state);
                x.reset();
                due("from state " + state, targets(x), 0);
                due("nulls", x.nulls(), 0);
                for (int relation = 2; relation < 6; relation++) {
                    due("at", x.at(relation, 0), MappingChase.NONE);
                }
            }
        });
        holds("14: with no target facts, and so no match of one", () -> {
            MappingChase x = Scenes.facts(Scenes.of("0:01 -> 2:01", "2:00 -> 3:00", "2:01 -> 4:10", "2:10 -> 5:10"), 0, 5, 5, 6, 7);
            Scenes.chase(x);
            x.reset();
            x.take(0, 5, 5);
            x.take(0, 6, 7);
            x.fact(0, 7, 6);
            x.start();
            due("three steps", x.run(9), 3);
            SENTENCES.dueFacts("relation 2", x, 2, "7,6");
            SENTENCES.dueFacts("relation 3", x, 3, "");
            SENTENCES.dueFacts("relation 4", x, 4, "6,7");
            SENTENCES.dueFacts("relation 5", x, 5, "7,6");
        });
        holds("14: source facts stay", () -> {
            for (int state = 0; state < 5; state++) {
                MappingChase x = Scenes.inState(state);
                String before = Scenes.show(x, 0);
                x.reset();
                SENTENCES.dueFacts("from state " + state, x, 0, before);
                due("fact", x.fact(0, 1, 2), x.size(0));
            }
        });
        holds("14: dependencies stay", () -> {
            for (int state = 0; state < 5; state++) {
                MappingChase x = Scenes.inState(state);
                x.reset();
                due("from state " + state, Scenes.close(x, "1:01 -> 5:01"), state > 2 ? 2 : 1);
                x.drop();
                x.start();
                x.run(99);
                due("the same outcome", x.state(), Math.max(state, 2));
            }
        });
        holds("14: the query stays", () -> {
            for (int state = 0; state < 3; state++) {
                MappingChase x = withAll(state);
                x.reset();
                due("none while building", x.answers(), MappingChase.NONE);
                Scenes.chase(x);
                due("from state " + state, x.answer(0), 33);
            }
        });
        holds("14: the draft stays", () -> {
            for (int state = 0; state < 5; state++) {
                MappingChase x = withAll(state);
                x.reset();
                due("from state " + state, x.close(), state > 2 ? 2 : 1);
                x = withAll(state);
                x.reset();
                due("body", x.body(2, 0, 1), 2);
                due("head", x.head(5, 0, 1), 2);
            }
        });
        holds("14: the chase is the same again", () -> {
            MappingChase x = threeSteps();
            StringBuilder first = new StringBuilder();
            StringBuilder second = new StringBuilder();
            WayOn.chase(x, first);
            x.reset();
            x.start();
            x.reset();
            x.start();
            WayOn.chase(x, second);
            SENTENCES.due("again", second.toString(), first.toString());
        });
    }

    private static void state() {
        String[] names = {"BUILDING (0)", "CHASING (1)", "FINISHED (2)", "FAILED (3)", "FULL (4)"};
        for (int state = 0; state < 5; state++) {
            int number = state;
            holds("15: " + names[state], () -> {
                due("state", Scenes.inState(number).state(), number);
                SENTENCES.refused("a look", () -> Scenes.inState(number), MappingChase::state, number);
            });
        }
    }
}
