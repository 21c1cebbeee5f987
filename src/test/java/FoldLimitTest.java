/**
 * Promise 19 at its limit of 10000 values told. The scenes were searched for, so that the number
 * told comes out as it does; the model, with no limit in its way, says what that number is.
 */
public final class FoldLimitTest {
    private static final Checks CHECKS = new Checks();

    /** Each row is a generator: source relation and two variables, then one or two head atoms. */
    private static final int[][] FOUND_AT_10000 = {
        {0, 1, 1, 3, 3, 0, 4, 3, 2}, {0, 0, 1, 4, 0, 1}, {0, 1, 1, 2, 0, 3, 4, 3, 2},
        {1, 0, 0, 3, 0, 2}, {1, 0, 1, 5, 1, 0, 4, 0, 1},
    };
    private static final int[][] FACTS_FOUND_AT_10000 = {
        {0, 5, 4}, {1, 2, 1}, {0, 6, 6}, {1, 7, 7}, {0, 0, 4}, {1, 3, 7},
    };

    private static final int[][] FOUND_AT_10001 = {
        {0, 1, 1, 2, 0, 3, 5, 3, 2}, {0, 1, 1, 3, 0, 3, 2, 3, 2}, {1, 0, 1, 3, 1, 0, 4, 0, 1},
        {0, 0, 0, 2, 0, 2},
    };
    private static final int[][] FACTS_FOUND_AT_10001 = {
        {1, 5, 5}, {0, 10, 10}, {0, 4, 7}, {0, 2, 2}, {1, 1, 13}, {1, 8, 4}, {0, 6, 7}, {1, 12, 12},
        {0, 0, 1}, {1, 11, 0}, {1, 6, 9}, {1, 10, 12},
    };

    private static final int[][] NONE_WITH_10000 = {
        {1, 1, 1, 5, 2, 3, 5, 3, 2}, {1, 1, 1, 4, 0, 2, 5, 0, 3}, {1, 1, 1, 4, 0, 3, 3, 3, 2},
        {1, 0, 1, 4, 1, 0, 4, 0, 1},
    };
    private static final int[][] FACTS_NONE_WITH_10000 = {
        {1, 4, 11}, {1, 0, 0}, {1, 8, 10}, {1, 9, 9}, {1, 7, 11}, {0, 5, 7}, {1, 0, 2}, {1, 8, 9},
        {0, 6, 2}, {0, 10, 9},
    };

    private static final int[][] FAR_TOO_MANY = {
        {0, 1, 1, 3, 0, 3, 4, 3, 2}, {1, 1, 1, 5, 0, 3, 5, 2, 3}, {1, 1, 1, 2, 0, 3}, {1, 0, 1, 4, 0, 1},
    };
    private static final int[][] FACTS_FAR_TOO_MANY = {
        {0, 1, 1}, {1, 1, 1}, {1, 2, 3}, {1, 4, 5}, {1, 6, 7}, {1, 8, 9}, {1, 10, 11}, {1, 12, 13},
    };

    public static void main(String[] args) {
        scene("found at 10000", FOUND_AT_10000, FACTS_FOUND_AT_10000, 10000, 2, 2);
        scene("found at 10001", FOUND_AT_10001, FACTS_FOUND_AT_10001, 10001, 2, MappingChase.MANY);
        scene("none with 10000", NONE_WITH_10000, FACTS_NONE_WITH_10000, 10000, 0, 0);
        scene("far too many", FAR_TOO_MANY, FACTS_FAR_TOO_MANY, 12000, ChaseModel.MANY, MappingChase.MANY);
        afterTooMany();
        CHECKS.end();
    }

    /** That one fold was too long says nothing of the next one. */
    private static void afterTooMany() {
        MappingChase x = new MappingChase();
        Scenes.generator(x, Scenes.atom(0, 1, 1), Scenes.atom(3, 0, 3), Scenes.atom(4, 3, 2));
        Scenes.generator(x, Scenes.atom(1, 1, 1), Scenes.atom(5, 0, 3), Scenes.atom(5, 2, 3));
        Scenes.generator(x, Scenes.atom(1, 1, 1), Scenes.atom(2, 0, 3));
        Scenes.generator(x, Scenes.atom(1, 0, 1), Scenes.atom(4, 0, 1));
        Scenes.facts(x, 0, 1, 1);
        Scenes.facts(x, 1, 1, 1, 2, 3, 4, 5, 6, 7, 8, 9, 10, 11, 12, 13);
        Scenes.chase(x);
        CHECKS.due("too many", x.fold(), MappingChase.MANY);
        x.reset();
        x.take(1, 1, 1);
        Scenes.chase(x);
        CHECKS.due("nulls after too many", x.nulls(), 3);
        CHECKS.due("none after too many", x.fold(), 0);
    }

    /** With how many told what would be answered, and what is due with the limit. */
    private static void scene(String name, int[][] generators, int[][] facts, int told, int freely, int due) {
        MappingChase x = new MappingChase();
        ChaseModel model = new ChaseModel();
        for (int[] g : generators) {
            x.open(0);
            model.open(0);
            x.body(g[0], g[1], g[2]);
            model.body(g[0], g[1], g[2]);
            for (int i = 3; i < g.length; i += 3) {
                x.head(g[i], g[i + 1], g[i + 2]);
                model.head(g[i], g[i + 1], g[i + 2]);
            }
            x.close();
            model.close();
        }
        for (int[] f : facts) {
            x.fact(f[0], f[1], f[2]);
            model.fact(f[0], f[1], f[2]);
        }
        x.start();
        x.run(100);
        CHECKS.due(name + ": finished", x.state(), 2);
        model.start();
        model.run(100);
        model.mostTold = 12000;
        CHECKS.due(name + ": freely", model.fold(), freely);
        CHECKS.due(name + ": told", model.told, told);
        String before = all(x);
        CHECKS.due(name + ": fold", x.fold(), due);
        if (due <= 0) {
            CHECKS.due(name + ": nothing is changed", all(x), before);
            CHECKS.due(name + ": fold again", x.fold(), due);
        } else {
            for (int relation = 2; relation < 6; relation++) {
                CHECKS.due(name + ": size " + relation, x.size(relation), model.size(relation));
                for (int k = 0; k < model.size(relation); k++) {
                    CHECKS.due(name + ": at " + relation + ", " + k, x.at(relation, k), model.at(relation, k));
                }
            }
        }
        CHECKS.due(name + ": still finished", x.state(), 2);
    }

    private static String all(MappingChase x) {
        StringBuilder text = new StringBuilder();
        for (int relation = 0; relation < 6; relation++) {
            text.append(Scenes.show(x, relation)).append('|');
        }
        return text.toString();
    }
}
