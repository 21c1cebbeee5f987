/**
 * Promise 19 at its limit of 10000 values told. The scenes were searched for, so that the number
 * told comes out as it does; the model, with no limit in its way, says what that number is.
 */
public final class FoldLimitTest {
    private static final Sentences SENTENCES = new Sentences();

    /** Each row is a generator: source relation and two variables, then one or two head atoms. */
    private static final int[][] FOUND_AT_10000 = {
        {0, 1, 1, 3, 3, 0, 4, 3, 2}, {0, 0, 1, 4, 0, 1}, {0, 1, 1, 2, 0, 3, 4, 3, 2},
        {1, 0, 0, 3, 0, 2}, {1, 0, 1, 5, 1, 0, 4, 0, 1},
    };
    private static final int[][] FACTS_FOUND_AT_10000 = {
        {0, 6, 5}, {1, 3, 2}, {0, 7, 7}, {1, 8, 8}, {0, 1, 5}, {1, 4, 8},
    };

    private static final int[][] FOUND_AT_10001 = {
        {0, 1, 1, 2, 0, 3, 5, 3, 2}, {0, 1, 1, 3, 0, 3, 2, 3, 2}, {1, 0, 1, 3, 1, 0, 4, 0, 1},
        {0, 0, 0, 2, 0, 2},
    };
    private static final int[][] FACTS_FOUND_AT_10001 = {
        {1, 5, 5}, {0, 10, 10}, {0, 4, 7}, {0, 2, 2}, {1, 1, 13}, {1, 8, 4}, {0, 6, 7}, {1, 12, 12},
        {0, 0, 1}, {1, 11, 0}, {1, 6, 9}, {1, 10, 12},
    };

    private static final int[][] NONE_WITH_10000 = {
        {1, 1, 1, 5, 2, 3, 5, 3, 2}, {1, 1, 1, 4, 0, 2, 5, 0, 3}, {1, 1, 1, 4, 0, 3, 3, 3, 2},
        {1, 0, 1, 4, 1, 0, 4, 0, 1},
    };
    private static final int[][] FACTS_NONE_WITH_10000 = {
        {1, 5, 12}, {1, 1, 1}, {1, 9, 11}, {1, 10, 10}, {1, 8, 12}, {0, 6, 8}, {1, 1, 3}, {1, 9, 10},
        {0, 7, 3}, {0, 11, 10},
    };

    /** An exhausted search has told each value of each null it came to, so 10001 cannot come out. */
    private static final int[][] NONE_WITH_10032 = {
        {1, 1, 1, 4, 2, 3, 4, 3, 2}, {1, 1, 1, 5, 0, 3, 3, 2, 0}, {1, 1, 1, 2, 2, 3, 5, 0, 3},
        {1, 0, 1, 3, 1, 0, 3, 0, 1},
    };
    private static final int[][] FACTS_NONE_WITH_10032 = {
        {1, 0, 0}, {1, 3, 8}, {1, 6, 6}, {1, 8, 7}, {1, 1, 4}, {1, 2, 3}, {1, 8, 4}, {1, 2, 1},
    };

    private static final int[][] FAR_TOO_MANY = {
        {0, 1, 1, 3, 0, 3, 4, 3, 2}, {1, 1, 1, 5, 0, 3, 5, 2, 3}, {1, 1, 1, 2, 0, 3}, {1, 0, 1, 4, 0, 1},
    };
    private static final int[][] FACTS_FAR_TOO_MANY = {
        {0, 1, 1}, {1, 1, 1}, {1, 2, 3}, {1, 4, 5}, {1, 6, 7}, {1, 8, 9}, {1, 10, 11}, {1, 12, 13},
    };

    public static void main(String[] args) {
        holds("19: the map is found with 10000 values told", FOUND_AT_10000, FACTS_FOUND_AT_10000, 10000, 2, 2);
        holds("19: MANY, refused, when it is not found with 10000 values told", FOUND_AT_10001, FACTS_FOUND_AT_10001,
                10001, 2, MappingChase.MANY);
        holds("19: it is known that there is none with 10000 values told", NONE_WITH_10000, FACTS_NONE_WITH_10000,
                10000, 0, 0);
        holds("19: MANY, refused, when it is not known that there is none with 10000 values told", NONE_WITH_10032,
                FACTS_NONE_WITH_10032, 10032, 0, MappingChase.MANY);
        holds("19: MANY, refused, when far more would be told", FAR_TOO_MANY, FACTS_FAR_TOO_MANY, 12000, ChaseModel.MANY,
                MappingChase.MANY);
        SENTENCES.holds("19: the values told are those of one call", FoldLimitTest::behindTooMany);
        SENTENCES.end();
    }

    /** That one fold was too long, or nearly so, says nothing of the next one. */
    private static void behindTooMany() {
        MappingChase x = chased(FAR_TOO_MANY, FACTS_FAR_TOO_MANY);
        SENTENCES.due("too many", x.fold(), MappingChase.MANY);
        SENTENCES.due("too many again", x.fold(), MappingChase.MANY);
        x.reset();
        x.take(1, 1, 1);
        Scenes.chase(x);
        SENTENCES.due("nulls", x.nulls(), 3);
        SENTENCES.due("none folds", x.fold(), 0);
        x = chased(NONE_WITH_10000, FACTS_NONE_WITH_10000);
        SENTENCES.due("none with 10000", x.fold(), 0);
        SENTENCES.due("none with 10000 again", x.fold(), 0);
    }

    /** With so many told one would be answered freely, and the other one is due with the limit. */
    private static void holds(String words, int[][] generators, int[][] facts, int told, int freely, int due) {
        SENTENCES.holds(words, () -> {
            ChaseModel model = modelled(generators, facts);
            model.mostTold = 12000;
            SENTENCES.due("freely", model.fold(), freely);
            SENTENCES.due("told", model.told, told);
            SENTENCES.due("finished", chased(generators, facts).state(), 2);
            if (due > 0) {
                folds(chased(generators, facts), model, due);
            } else {
                SENTENCES.refused("fold", () -> chased(generators, facts), MappingChase::fold, due);
            }
        });
    }

    private static void folds(MappingChase x, ChaseModel model, int due) {
        SENTENCES.due("fold", x.fold(), due);
        for (int relation = 0; relation < 6; relation++) {
            SENTENCES.due("size " + relation, x.size(relation), model.size(relation));
            for (int k = 0; k < model.size(relation); k++) {
                SENTENCES.due("at " + relation + ", " + k, x.at(relation, k), model.at(relation, k));
            }
        }
        SENTENCES.due("still finished", x.state(), 2);
    }

    private static MappingChase chased(int[][] generators, int[][] facts) {
        MappingChase x = new MappingChase();
        for (int[] g : generators) {
            x.open(0);
            x.body(g[0], g[1], g[2]);
            for (int i = 3; i < g.length; i += 3) {
                x.head(g[i], g[i + 1], g[i + 2]);
            }
            x.close();
        }
        for (int[] f : facts) {
            x.fact(f[0], f[1], f[2]);
        }
        Scenes.chase(x);
        return x;
    }

    private static ChaseModel modelled(int[][] generators, int[][] facts) {
        ChaseModel model = new ChaseModel();
        for (int[] g : generators) {
            model.open(0);
            model.body(g[0], g[1], g[2]);
            for (int i = 3; i < g.length; i += 3) {
                model.head(g[i], g[i + 1], g[i + 2]);
            }
            model.close();
        }
        for (int[] f : facts) {
            model.fact(f[0], f[1], f[2]);
        }
        model.start();
        model.run(100);
        return model;
    }
}
