import java.util.function.Supplier;

/** Promises 7 to 9, sentence by sentence: drop, fact, take. */
public final class FactEdgesTest {
    private static final Sentences SENTENCES = new Sentences();
    private static final String[] SIX = {
        "0:01 -> 2:01", "0:01 -> 3:01", "0:01 -> 4:01", "0:01 -> 5:01", "2:01 -> 2:11", "3:01 -> 3:11",
    };

    public static void main(String[] args) {
        drop();
        fact();
        factRefuses();
        take();
        SENTENCES.end();
    }

    private static void holds(String words, Runnable test) {
        SENTENCES.holds(words, test);
    }

    private static void due(String call, long got, long want) {
        SENTENCES.due(call, got, want);
    }

    private static void due(String call, boolean got, boolean want) {
        SENTENCES.due(call, got, want);
    }

    private static void refused(String name, Supplier<MappingChase> scene, Sentences.Call call, long want) {
        SENTENCES.refused(name, scene, call, want);
    }

    private static void refused(String name, Supplier<MappingChase> scene, Sentences.Call call) {
        SENTENCES.refused(name, scene, call);
    }

    private static void drop() {
        holds("7: takes the last dependency away", () -> {
            String[] left = {"1,2|1,2|1,2|1,2", "1,2|1,2|1,2|", "1,2|1,2||", "1,2|||", "|||"};
            MappingChase x = Scenes.facts(Scenes.of(SIX), 0, 1, 2);
            x.drop();
            for (String want : left) {
                x.drop();
                Scenes.chase(x);
                SENTENCES.due("what is left makes", targets(x), want);
                x.reset();
            }
        });
        holds("7: answers how many are left", () -> {
            MappingChase x = Scenes.of(SIX);
            for (int left = 5; left >= 0; left--) {
                due("drop", x.drop(), left);
            }
        });
        holds("7: 0 also when there was none", () -> {
            due("new", new MappingChase().drop(), 0);
            refused("new", MappingChase::new, MappingChase::drop, 0);
            refused("all are dropped", FactEdgesTest::withOneDropped, MappingChase::drop, 0);
            MappingChase x = withOneDropped();
            x.drop();
            due("the next number", Scenes.close(x, "0:01 -> 2:01"), 0);
            due("the number behind it", Scenes.close(x, "0:01 -> 2:01"), 1);
        });
        holds("7: NONE, refused, when the state is not BUILDING", () -> {
            for (int state = 1; state < 5; state++) {
                int number = state;
                refused("state " + state, () -> Scenes.inState(number), MappingChase::drop);
            }
        });
        holds("7: a query is no dependency", () -> {
            MappingChase x = Scenes.facts(Scenes.of("0:01 -> 2:01", "2:01 ? 01"), 0, 1, 2);
            due("a query beside one", x.drop(), 0);
            Scenes.close(x, "0:01 -> 2:10");
            Scenes.chase(x);
            due("the query is still there", x.answer(0), 33);
        });
        holds("7: a draft is no dependency", () -> {
            MappingChase x = Scenes.draft(Scenes.of(SIX), "1:01 ->");
            due("a draft beside six", x.drop(), 5);
            due("the draft is still there", x.body(1, 0, 1), 2);
        });
        holds("7: the dependency that was dropped has its number no more", () -> {
            MappingChase x = Scenes.of(SIX);
            x.drop();
            x.drop();
            due("close", Scenes.close(x, "1:01 -> 2:01"), 4);
            due("close", Scenes.close(x, "1:01 -> 2:01"), 5);
            due("close", Scenes.close(x, "1:01 -> 2:01"), MappingChase.MANY);
        });
    }

    private static MappingChase withOneDropped() {
        MappingChase x = Scenes.facts(Scenes.of("0:01 -> 2:01"), 0, 1, 2);
        x.drop();
        return x;
    }

    private static String targets(MappingChase x) {
        return Scenes.show(x, 2) + "|" + Scenes.show(x, 3) + "|" + Scenes.show(x, 4) + "|" + Scenes.show(x, 5);
    }

    /** So many source facts of relation 0, and then up to twelve of relation 1. */
    private static MappingChase twelve(int inFirst) {
        MappingChase x = Scenes.of("0:01 -> 2:01", "1:01 -> 3:01");
        for (int i = 0; i < 12; i++) {
            x.fact(i < inFirst ? 0 : 1, i, 15 - i);
        }
        return x;
    }

    private static void fact() {
        holds("8: adds a source fact and answers how many there are then", () -> {
            MappingChase x = new MappingChase();
            for (int i = 0; i < 12; i++) {
                due("of both relations", x.fact(i % 2, i, i), i + 1);
                due("in its relation", x.size(i % 2), i / 2 + 1);
            }
        });
        holds("8: the source facts are a set", () -> {
            MappingChase x = new MappingChase();
            due("new", x.fact(0, 1, 2), 1);
            due("there already", x.fact(0, 1, 2), 1);
            due("the other way round", x.fact(0, 2, 1), 2);
            due("of the other relation", x.fact(1, 1, 2), 3);
            due("there already", x.fact(0, 2, 1), 3);
            due("size 0", x.size(0), 2);
            due("size 1", x.size(1), 1);
        });
        holds("8: the relations 0 and 1 and the constants 0 .. 15 are taken", () -> {
            for (int relation = 0; relation < 2; relation++) {
                for (int value = 0; value < 16; value++) {
                    MappingChase x = new MappingChase();
                    due("first " + value, x.fact(relation, value, 7), 1);
                    due("it is the fact", x.at(relation, 0), 32 * value + 7);
                    x = new MappingChase();
                    due("second " + value, x.fact(relation, 7, value), 1);
                    due("it is the fact", x.at(relation, 0), 32 * 7 + value);
                }
            }
        });
    }

    private static void factRefuses() {
        holds("8: NONE, refused, when the state is not BUILDING", () -> {
            for (int state = 1; state < 5; state++) {
                int number = state;
                refused("a new one in state " + state, () -> Scenes.inState(number), x -> x.fact(0, 9, 9));
                refused("one that is there", () -> Scenes.inState(number), x -> x.fact(0, 1, 2));
            }
        });
        holds("8: NONE, refused, when the relation is not 0 or 1", () -> {
            for (int relation = 2; relation < 6; relation++) {
                int target = relation;
                refused("relation " + target, () -> twelve(6), x -> x.fact(target, 0, 15));
            }
            for (int relation : Wrong.RELATIONS) {
                refused("relation " + relation, () -> Scenes.inState(0), x -> x.fact(relation, 3, 3));
            }
        });
        holds("8: NONE, refused, when a value is no constant", () -> {
            for (int wrong : Wrong.CONSTANTS) {
                refused("first " + wrong, () -> Scenes.inState(0), x -> x.fact(0, wrong, 2));
                refused("second " + wrong, () -> Scenes.inState(0), x -> x.fact(1, 1, wrong));
                refused("both " + wrong, () -> Scenes.inState(0), x -> x.fact(0, wrong, wrong));
                refused("among twelve " + wrong, () -> twelve(12), x -> x.fact(0, wrong, 2));
            }
        });
        holds("8: MANY, refused, when it is not there and 12 are", () -> {
            for (int inFirst = 0; inFirst <= 12; inFirst++) {
                int number = inFirst;
                refused("of relation 0", () -> twelve(number), x -> x.fact(0, 15, 15), MappingChase.MANY);
                refused("of relation 1", () -> twelve(number), x -> x.fact(1, 15, 15), MappingChase.MANY);
            }
            refused("there in the other relation", () -> twelve(6), x -> x.fact(1, 0, 15), MappingChase.MANY);
            refused("there the other way round", () -> twelve(6), x -> x.fact(0, 15, 0), MappingChase.MANY);
        });
        holds("8: when it is there and 12 are, it is not refused", () -> {
            MappingChase x = twelve(6);
            for (int i = 0; i < 12; i++) {
                due("fact " + i, x.fact(i < 6 ? 0 : 1, i, 15 - i), 12);
            }
            due("sizes", 100 * x.size(0) + x.size(1), 606);
        });
        holds("8: when it is not there and 11 are, it is not refused", () -> {
            MappingChase x = twelve(6);
            x.take(1, 11, 4);
            due("the twelfth again", x.fact(0, 15, 15), 12);
            due("the thirteenth", x.fact(1, 11, 4), MappingChase.MANY);
        });
    }

    private static void take() {
        holds("9: takes a source fact away; answers whether it was there", () -> {
            MappingChase x = twelve(6);
            for (int i = 0; i < 12; i++) {
                int relation = i < 6 ? 0 : 1;
                due("there", x.take(relation, i, 15 - i), true);
                due("gone", x.take(relation, i, 15 - i), false);
                due("so many are left", x.size(0) + x.size(1), 11 - i);
            }
            due("the first again", x.fact(0, 3, 3), 1);
        });
        holds("9: what is taken away has no match", () -> {
            MappingChase x = twelve(6);
            x.take(0, 0, 15);
            x.take(1, 11, 4);
            Scenes.chase(x);
            SENTENCES.dueFacts("relation 2", x, 2, "1,14 2,13 3,12 4,11 5,10");
            SENTENCES.dueFacts("relation 3", x, 3, "6,9 7,8 8,7 9,6 10,5");
        });
        holds("9: what is taken away has no match by its second value, or by both, and what is left has", () -> {
            MappingChase x = Scenes.of("0:10 -> 2:10", "0:00 -> 3:00", "0:02 0:12 -> 4:01");
            Scenes.facts(x, 0, 1, 2, 1, 3, 4, 3, 5, 5, 6, 6, 6, 7, 7, 6, 0, 4);
            x.take(0, 1, 3);
            x.take(0, 5, 5);
            x.take(0, 6, 7);
            Scenes.chase(x);
            SENTENCES.dueFacts("relation 2", x, 2, "0,4 1,2 4,3 6,6 7,6");
            SENTENCES.dueFacts("relation 3", x, 3, "6,6");
            SENTENCES.dueFacts("relation 4", x, 4, "0,0 1,1 4,4 6,6 6,7 7,6 7,7");
        });
        holds("9: what shares a value with what is taken away stays", () -> {
            for (int value = 0; value < 14; value++) {
                MappingChase x = Scenes.of("0:01 -> 2:01", "0:10 -> 3:10", "1:01 -> 4:01", "1:10 -> 5:10");
                Scenes.facts(Scenes.facts(x, 0, 14, value, 14, 15), 1, value, 14, 15, 14);
                due("the same first value", x.take(0, 14, 15), true);
                due("the same second value", x.take(1, 15, 14), true);
                Scenes.chase(x);
                SENTENCES.due("what is left", targets(x), "14,v|14,v|v,14|v,14".replace("v", "" + value));
            }
        });
        holds("9: false when it was not there", () -> {
            takeNothing("the other way round", 0, 15, 0);
            takeNothing("of the other relation", 1, 0, 15);
            takeNothing("the first value alone", 0, 0, 14);
            takeNothing("the second value alone", 0, 1, 15);
            for (int wrong : Wrong.CONSTANTS) {
                takeNothing("first " + wrong, 0, wrong, 15);
                takeNothing("second " + wrong, 0, 0, wrong);
                takeNothing("both " + wrong, 0, wrong, wrong);
            }
            for (int wrong : Wrong.RELATIONS) {
                takeNothing("relation " + wrong, wrong, 0, 15);
            }
            for (int target = 2; target < 6; target++) {
                takeNothing("relation " + target, target, 0, 15);
            }
            refused("of none", MappingChase::new, x -> Sentences.flag(x.take(0, 0, 0)), 0);
        });
        holds("9: false, refused, when the state is not BUILDING", () -> {
            for (int state = 1; state < 5; state++) {
                int number = state;
                Supplier<MappingChase> scene = () -> Scenes.inState(number);
                refused("a source fact that is there", scene, x -> Sentences.flag(x.take(0, 1, 2)), 0);
                refused("a target fact that is there", scene, x -> Sentences.flag(x.take(2, 1, 2)), 0);
                refused("one that is not", scene, x -> Sentences.flag(x.take(0, 9, 9)), 0);
            }
        });
    }

    private static void takeNothing(String name, int relation, int a, int b) {
        refused(name, () -> twelve(6), x -> Sentences.flag(x.take(relation, a, b)), 0);
    }
}
