/** Promises 16 to 18, sentence by sentence: size, at, nulls. */
public final class LookEdgesTest {
    private static final Sentences SENTENCES = new Sentences();

    public static void main(String[] args) {
        size();
        at();
        atNothing();
        nulls();
        SENTENCES.end();
    }

    private static void holds(String words, Runnable test) {
        SENTENCES.holds(words, test);
    }

    private static void due(String call, long got, long want) {
        SENTENCES.due(call, got, want);
    }

    /** Twelve source facts in relation 0, and 24 target facts, all of them in relation 5. */
    private static MappingChase brimful() {
        MappingChase x = Scenes.of("0:01 -> 5:01 5:10");
        for (int i = 0; i < 12; i++) {
            x.fact(0, 11 - i, 15 - i / 4);
        }
        Scenes.chase(x);
        return x;
    }

    private static void size() {
        holds("16: how many facts a relation has", () -> {
            MappingChase x = Scenes.of("0:01 -> 2:01 3:01", "1:01 -> 3:02", "3:01 -> 4:00");
            Scenes.facts(Scenes.facts(x, 0, 1, 2, 1, 3, 2, 3), 1, 5, 6);
            int[] before = {3, 1, 0, 0, 0, 0};
            int[] then = {3, 1, 3, 4, 3, 0};
            for (int relation = 0; relation < 6; relation++) {
                due("before, relation " + relation, x.size(relation), before[relation]);
            }
            Scenes.chase(x);
            for (int relation = 0; relation < 6; relation++) {
                due("then, relation " + relation, x.size(relation), then[relation]);
            }
        });
        holds("16: 0 when it has none, and as many as there can be", () -> {
            MappingChase x = brimful();
            due("source facts", x.size(0), 12);
            due("target facts", x.size(5), 24);
            due("none", x.size(1) + x.size(2) + x.size(3) + x.size(4), 0);
        });
        holds("16: NONE when it is not 0 .. 5", () -> {
            for (int state = 0; state < 5; state++) {
                int number = state;
                for (int relation : Wrong.RELATIONS) {
                    SENTENCES.refused("size of " + relation, () -> Scenes.inState(number), x -> x.size(relation));
                }
            }
        });
        holds("16: in every state", () -> {
            for (int state = 0; state < 5; state++) {
                MappingChase x = Scenes.inState(state);
                due("source facts in state " + state, x.size(0), state == 4 ? 5 : 1);
                due("target facts in state " + state, x.size(2), state < 2 ? 0 : state == 4 ? 5 : 1);
            }
        });
    }

    private static void at() {
        holds("17: in the order of the first and then the second value", () -> {
            MappingChase x = Scenes.of("0:01 -> 2:01", "0:01 -> 3:12", "3:01 -> 2:10", "3:01 -> 2:11");
            Scenes.facts(x, 0, 15, 0, 0, 15, 15, 15, 0, 0, 7, 15, 7, 0);
            SENTENCES.dueFacts("source facts", x, 0, "0,0 0,15 7,0 7,15 15,0 15,15");
            Scenes.chase(x);
            SENTENCES.dueFacts("target facts", x, 2, "0,0 0,15 7,0 7,15 15,0 15,15 16,0 16,16 17,15 17,17");
            SENTENCES.dueFacts("nulls behind constants", x, 3, "0,16 15,17");
        });
        holds("17: 32 times the first value plus the second", () -> {
            for (int a = 0; a < 16; a++) {
                for (int b = 0; b < 16; b++) {
                    due("at", Scenes.facts(new MappingChase(), 1, a, b).at(1, 0), 32 * a + b);
                }
            }
            MappingChase x = Scenes.of("0:01 -> 2:22 3:20");
            for (int i = 0; i < 8; i++) {
                x.fact(0, 15 - i, 0);
            }
            Scenes.chase(x);
            for (int i = 0; i < 8; i++) {
                due("a null twice", x.at(2, i), 33 * (16 + i));
                due("a null and a constant", x.at(3, i), 32 * (16 + i) + 8 + i);
            }
        });
        holds("17: k from 0, to the last one", () -> {
            MappingChase x = brimful();
            int before = -1;
            for (int k = 0; k < 24; k++) {
                due("one more than before at " + k, x.at(5, k) > before ? 1 : 0, 1);
                before = x.at(5, k);
            }
            due("the first", x.at(5, 0), 13);
            due("the last", x.at(5, 23), 32 * 15 + 11);
            due("the first source fact", x.at(0, 0), 13);
            due("the last source fact", x.at(0, 11), 32 * 11 + 15);
        });
    }

    private static void atNothing() {
        holds("17: NONE when there is none: k is the number of facts, or more", () -> {
            MappingChase x = brimful();
            due("behind the last", x.at(5, 24), MappingChase.NONE);
            due("behind the last source fact", x.at(0, 12), MappingChase.NONE);
            due("and on", x.at(5, 25), MappingChase.NONE);
            due("of no facts", x.at(1, 0), MappingChase.NONE);
            due("of no facts", x.at(2, 0), MappingChase.NONE);
            x = Scenes.inState(2);
            due("behind the only one", x.at(2, 1), MappingChase.NONE);
            due("the only one", x.at(2, 0), 34);
        });
        holds("17: NONE when there is none: k below 0, or far above", () -> {
            for (int k : Wrong.PLACES) {
                for (int relation = 0; relation < 6; relation++) {
                    int number = relation;
                    SENTENCES.refused("at " + relation + ", " + k, LookEdgesTest::brimful, x -> x.at(number, k));
                }
            }
        });
        holds("17: NONE when there is none: the relation is not 0 .. 5", () -> {
            for (int relation : Wrong.RELATIONS) {
                for (int k : new int[] {0, 1, -1, Integer.MAX_VALUE, Integer.MIN_VALUE}) {
                    SENTENCES.refused("at " + relation + ", " + k, LookEdgesTest::brimful, x -> x.at(relation, k));
                }
            }
        });
        holds("17: in every state", () -> {
            for (int state = 0; state < 5; state++) {
                MappingChase x = Scenes.inState(state);
                due("a source fact in state " + state, x.at(0, 0), 34);
                due("a target fact in state " + state, x.at(2, 0), state < 2 ? MappingChase.NONE : 34);
            }
        });
    }

    private static void nulls() {
        holds("18: 0 with no target facts, and with constants alone", () -> {
            due("new", new MappingChase().nulls(), 0);
            for (int state = 0; state < 4; state++) {
                due("state " + state, Scenes.inState(state).nulls(), 0);
            }
            due("twenty-four facts", brimful().nulls(), 0);
        });
        holds("18: how many different nulls", () -> {
            MappingChase x = Scenes.of("0:01 -> 2:22 3:20", "3:01 -> 4:10 5:01");
            Scenes.facts(x, 0, 1, 1);
            Scenes.chase(x);
            due("one in four facts", x.nulls(), 1);
            due("facts", x.size(2) + x.size(3) + x.size(4) + x.size(5), 4);
        });
        holds("18: in the first place, in the second, and in each target relation", () -> {
            for (int relation = 2; relation < 6; relation++) {
                for (String atom : new String[] {":20", ":02", ":22"}) {
                    MappingChase x = Scenes.facts(Scenes.of("0:00 -> " + relation + atom), 0, 1, 1);
                    Scenes.chase(x);
                    due(relation + atom, x.nulls(), 1);
                }
                MappingChase x = Scenes.facts(Scenes.of("0:00 -> " + relation + ":12"), 0, 1, 1);
                Scenes.chase(x);
                due("two", x.nulls(), 2);
            }
        });
        holds("18: from none to all eight", () -> {
            MappingChase x = Scenes.of("0:01 -> 2:02");
            for (int i = 0; i < 9; i++) {
                x.fact(0, i, i);
            }
            x.start();
            for (int i = 0; i < 8; i++) {
                due("before step " + i, x.nulls(), i);
                x.step();
            }
            due("all", x.nulls(), 8);
            due("full", x.step(), -2);
            due("all", x.nulls(), 8);
        });
        holds("18: that occur: fewer when one is replaced", () -> {
            MappingChase x = Scenes.facts(Scenes.of("0:01 -> 2:02", "2:01 2:32 = 12", "2:01 = 01"), 0, 1, 1, 2, 2);
            x.start();
            x.run(2);
            due("two", x.nulls(), 2);
            x.step();
            due("made equal", x.nulls(), 1);
            x.step();
            due("made equal to a constant", x.nulls(), 0);
        });
        holds("18: that occur: fewer behind a fold, and none behind a reset", () -> {
            MappingChase x = Scenes.facts(Scenes.of("0:00 -> 2:01 2:02"), 0, 1, 1);
            Scenes.chase(x);
            due("two", x.nulls(), 2);
            due("fold", x.fold(), 1);
            due("one", x.nulls(), 1);
            x.reset();
            due("none", x.nulls(), 0);
        });
        holds("18: a look changes nothing", () -> {
            for (int state = 0; state < 5; state++) {
                MappingChase y = Scenes.inState(state);
                int number = state;
                SENTENCES.refused("state " + state, () -> Scenes.inState(number), MappingChase::nulls, y.nulls());
            }
        });
    }
}
