/** Promises 20 and 21, sentence by sentence: answers, answer. */
public final class AnswerEdgesTest {
    private static final Sentences SENTENCES = new Sentences();

    public static void main(String[] args) {
        refuses();
        certain();
        counts();
        order();
        noSuchPair();
        SENTENCES.end();
    }

    private static void holds(String words, Runnable test) {
        SENTENCES.holds(words, test);
    }

    private static void due(String call, long got, long want) {
        SENTENCES.due(call, got, want);
    }

    /** With the target fact (1, 2) of relation 2 in every state but BUILDING. */
    private static MappingChase asking(int state, String query) {
        MappingChase x = Scenes.inState(state);
        x.step();
        Scenes.close(x, query);
        due("state", x.state(), state);
        due("the fact", x.at(2, 0), state == 0 ? MappingChase.NONE : 34);
        return x;
    }

    /** The answers in their order, as "1,2 3,4". */
    private static void dueAnswers(String query, MappingChase x, String want) {
        due(query, Scenes.close(x, query), 0);
        StringBuilder text = new StringBuilder();
        for (int k = 0; k < x.answers(); k++) {
            text.append(k == 0 ? "" : " ").append(x.answer(k) / 16).append(',').append(x.answer(k) % 16);
        }
        SENTENCES.due(query, text.toString(), want);
        due("behind the last of " + query, x.answer(x.answers()), MappingChase.NONE);
    }

    private static void refuses() {
        for (int state : new int[] {0, 1, 3, 4}) {
            holds("20: NONE when the state is not FINISHED, but " + state, () ->
                    SENTENCES.refused("answers", () -> asking(state, "2:01 ? 01"), MappingChase::answers));
            holds("21: NONE when the state is not FINISHED, but " + state, () ->
                    SENTENCES.refused("answer", () -> asking(state, "2:01 ? 01"), x -> x.answer(0)));
        }
        holds("20: NONE when there is no query", () -> {
            for (int state = 0; state < 5; state++) {
                int number = state;
                SENTENCES.refused("answers", () -> Scenes.inState(number), MappingChase::answers);
                SENTENCES.refused("a draft", () -> Scenes.draft(Scenes.inState(number), "2:01 ? 01"), MappingChase::answers);
            }
        });
        holds("21: NONE when there is no query", () -> {
            for (int state = 0; state < 5; state++) {
                int number = state;
                SENTENCES.refused("answer", () -> Scenes.inState(number), x -> x.answer(0));
                SENTENCES.refused("a draft", () -> Scenes.draft(Scenes.inState(number), "2:01 ? 01"), x -> x.answer(0));
            }
        });
        holds("20: when it is FINISHED and there is a query", () -> {
            due("answers", asking(2, "2:01 ? 01").answers(), 1);
            due("answer", asking(2, "2:01 ? 01").answer(0), 18);
            SENTENCES.refused("a look", () -> asking(2, "2:01 ? 01"), MappingChase::answers, 1);
            SENTENCES.refused("a look", () -> asking(2, "2:01 ? 01"), x -> x.answer(0), 18);
        });
        holds("20: NONE again behind a reset, until it is FINISHED again", () -> {
            MappingChase x = asking(2, "2:01 ? 01");
            x.reset();
            due("building", x.answers(), MappingChase.NONE);
            x.start();
            due("chasing", x.answers(), MappingChase.NONE);
            x.run(1);
            due("still chasing", x.answers(), MappingChase.NONE);
            x.run(1);
            due("finished", x.answers(), 1);
        });
    }

    private static MappingChase withNulls() {
        MappingChase x = Scenes.of("0:01 -> 2:02 3:21", "1:01 -> 2:01 3:10");
        Scenes.facts(Scenes.facts(x, 0, 1, 5, 2, 6), 1, 3, 4);
        Scenes.chase(x);
        SENTENCES.dueFacts("relation 2", x, 2, "1,16 2,17 3,4");
        SENTENCES.dueFacts("relation 3", x, 3, "4,3 16,5 17,6");
        return x;
    }

    private static void certain() {
        holds("20: pairs of constants: a null in the first place is none", () -> dueAnswers("3:01 ? 01", withNulls(), "4,3"));
        holds("20: pairs of constants: a null in the second place is none", () -> dueAnswers("2:01 ? 01", withNulls(), "3,4"));
        holds("20: pairs of constants: a null in both places is none", () -> dueAnswers("2:01 ? 11", withNulls(), "4,4"));
        holds("20: a variable that is not in the pair may have a null", () -> {
            dueAnswers("2:01 3:12 ? 02", withNulls(), "1,5 2,6 3,3");
            dueAnswers("2:01 3:12 ? 00", withNulls(), "1,1 2,2 3,3");
        });
        holds("20: 15 is a constant and 16 a null", () -> {
            MappingChase x = Scenes.facts(Scenes.of("0:01 -> 2:01", "0:01 -> 2:12"), 0, 15, 15, 14, 13);
            Scenes.chase(x);
            SENTENCES.dueFacts("relation 2", x, 2, "13,16 14,13 15,15");
            dueAnswers("2:01 ? 01", x, "14,13 15,15");
        });
        holds("20: in some match: every atom is a fact", () -> {
            dueAnswers("2:01 3:10 ? 01", withNulls(), "3,4");
            dueAnswers("2:01 2:12 ? 02", withNulls(), "");
            dueAnswers("2:01 3:12 2:23 ? 03", withNulls(), "3,4");
            dueAnswers("2:00 ? 00", withNulls(), "");
            dueAnswers("5:01 ? 01", withNulls(), "");
        });
        holds("20: the pair may be the other way round", () -> dueAnswers("2:01 ? 10", withNulls(), "4,3"));
        holds("20: the pair may be one variable", () -> {
            dueAnswers("2:01 ? 00", withNulls(), "1,1 2,2 3,3");
            dueAnswers("2:32 ? 22", withNulls(), "4,4");
        });
    }

    /** Each of the sixteen constants is a first value of relation 2, and a second one, too. */
    private static MappingChase allConstants() {
        MappingChase x = Scenes.of("0:01 -> 2:01 2:10");
        for (int i = 0; i < 8; i++) {
            x.fact(0, 2 * i, 2 * i + 1);
        }
        Scenes.chase(x);
        return x;
    }

    private static void counts() {
        holds("20: how many pairs: 0 when there are none", () -> {
            MappingChase x = asking(2, "5:01 ? 01");
            due("no facts", x.answers(), 0);
            due("no pair", x.answer(0), MappingChase.NONE);
            x = Scenes.of("2:01 ? 01");
            Scenes.chase(x);
            due("no facts at all", x.answers(), 0);
            due("no pair", x.answer(0), MappingChase.NONE);
        });
        holds("20: how many pairs: each counts once", () -> {
            MappingChase x = Scenes.facts(Scenes.of("0:01 -> 2:01"), 0, 1, 2, 1, 3, 1, 4, 5, 2);
            Scenes.chase(x);
            dueAnswers("2:01 ? 00", x, "1,1 5,5");
            dueAnswers("2:01 2:21 ? 02", x, "1,1 1,5 5,1 5,5");
            dueAnswers("2:01 2:23 ? 00", x, "1,1 5,5");
        });
        holds("20: how many pairs: all 256", () -> {
            MappingChase x = allConstants();
            Scenes.close(x, "2:01 2:23 ? 03");
            due("answers", x.answers(), 256);
            for (int k : new int[] {0, 1, 15, 16, 17, 128, 254, 255}) {
                due("answer " + k, x.answer(k), k);
            }
            due("answer 256", x.answer(256), MappingChase.NONE);
        });
        holds("20: how many pairs: by the query that there is", () -> {
            MappingChase x = withNulls();
            Scenes.close(x, "2:01 ? 00");
            due("one query", x.answers(), 3);
            Scenes.close(x, "2:01 ? 11");
            due("another in its place", x.answers(), 1);
            due("a refused one", Scenes.close(x, "0:01 ? 00"), MappingChase.MIXED);
            due("leaves it there", x.answers(), 1);
        });
    }

    private static void order() {
        holds("21: in the order of the first and then the second constant", () -> {
            MappingChase x = Scenes.facts(Scenes.of("0:01 -> 2:01"), 0, 15, 0, 0, 15, 15, 15, 0, 0, 9, 8, 9, 7, 8, 9);
            Scenes.chase(x);
            dueAnswers("2:01 ? 01", x, "0,0 0,15 8,9 9,7 9,8 15,0 15,15");
            dueAnswers("2:01 ? 10", x, "0,0 0,15 7,9 8,9 9,8 15,0 15,15");
        });
        holds("21: 16 times the first plus the second", () -> {
            for (int a = 0; a < 16; a++) {
                for (int b = 0; b < 16; b++) {
                    MappingChase x = Scenes.facts(Scenes.of("0:01 -> 2:01", "2:01 ? 01"), 0, a, b);
                    Scenes.chase(x);
                    due("answer", x.answer(0), 16 * a + b);
                }
            }
        });
        holds("21: k from 0, to the last one", () -> {
            MappingChase x = allConstants();
            Scenes.close(x, "2:01 ? 01");
            due("answers", x.answers(), 16);
            due("the first", x.answer(0), 1);
            due("the last", x.answer(15), 254);
            due("behind it", x.answer(16), MappingChase.NONE);
        });
    }

    private static void noSuchPair() {
        holds("21: NONE when there is none: k below 0, or far above", () -> {
            for (int k : Wrong.PLACES) {
                SENTENCES.refused("answer " + k, () -> asking(2, "2:01 ? 01"), x -> x.answer(k));
                SENTENCES.refused("answer " + k + " of 256", () -> {
                    MappingChase x = allConstants();
                    Scenes.close(x, "2:01 2:23 ? 03");
                    return x;
                }, x -> x.answer(k));
            }
        });
        holds("21: NONE when there is none: k is the number of pairs", () -> {
            SENTENCES.refused("answer 1 of 1", () -> asking(2, "2:01 ? 01"), x -> x.answer(1));
            SENTENCES.refused("answer 0 of none", () -> asking(2, "3:01 ? 01"), x -> x.answer(0));
        });
    }
}
