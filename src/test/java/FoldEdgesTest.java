/** Promise 19 and folding under "Terms", sentence by sentence; FoldLimitTest has the limit. */
public final class FoldEdgesTest {
    private static final Sentences SENTENCES = new Sentences();

    public static void main(String[] args) {
        refuses();
        noneFolds();
        keeps();
        answers();
        firstMap();
        replaces();
        SENTENCES.end();
    }

    private static void holds(String words, Runnable test) {
        SENTENCES.holds(words, test);
    }

    private static void due(String call, long got, long want) {
        SENTENCES.due(call, got, want);
    }

    private static void dueFacts(String call, MappingChase x, int relation, String want) {
        SENTENCES.dueFacts(call, x, relation, want);
    }

    /** The chase of these rules, with the source fact (1, 1) of relation 0 and these of relation 1. */
    private static MappingChase chased(String[] rules, int... values) {
        MappingChase x = Scenes.facts(Scenes.facts(Scenes.of(rules), 0, 1, 1), 1, values);
        x.start();
        x.run(99);
        return x;
    }

    private static String[] rules(String... rules) {
        return rules;
    }

    /** Two facts, (1, 16) and (1, 17), of which one would fold away, in each of the states. */
    private static MappingChase foldable(int state) {
        MappingChase x = Scenes.of("0:00 -> 2:01 2:02");
        if (state == 3) {
            Scenes.close(x, "0:00 -> 3:00");
            Scenes.close(x, "1:01 -> 4:01");
            Scenes.close(x, "4:01 = 01");
        }
        if (state == 4) {
            Scenes.close(x, "1:01 -> 4:02");
        }
        Scenes.facts(Scenes.facts(x, 0, 1, 1), 1, 2, 3, 3, 4, 4, 5, 5, 6, 6, 7, 7, 8, 8, 9);
        if (state > 0) {
            x.start();
            x.run(state == 1 ? 1 : 99);
        }
        due("state", x.state(), state);
        due("facts", x.size(2), state > 0 ? 2 : 0);
        return x;
    }

    private static void refuses() {
        for (int state : new int[] {0, 1, 3, 4}) {
            holds("19: NONE, refused, when the state is not FINISHED, but " + state, () ->
                    SENTENCES.refused("fold", () -> foldable(state), MappingChase::fold));
        }
        holds("19: when the state is FINISHED, it is not refused", () -> {
            MappingChase x = foldable(2);
            due("fold", x.fold(), 1);
            due("the state stays", x.state(), 2);
        });
    }

    private static void isCore(String words, String[] rules, int... values) {
        holds("19: 0 when no map folds: " + words, () ->
                SENTENCES.refused("fold", () -> chased(rules, values), MappingChase::fold, 0));
    }

    private static void noneFolds() {
        isCore("no facts", rules());
        isCore("no nulls", rules("0:01 -> 2:01", "1:01 -> 2:01"), 1, 2, 2, 1);
        isCore("one null in one fact", rules("0:01 -> 2:02"));
        isCore("one null and constants that do not fit", rules("0:01 -> 2:02", "1:01 -> 2:01"), 2, 3, 3, 1);
        isCore("the fitting fact is of another relation", rules("0:01 -> 2:02", "1:01 -> 3:01"), 1, 3);
        isCore("a null that is told in two facts", rules("0:01 -> 2:02 3:20", "1:01 -> 2:01"), 1, 3);
        isCore("a null twice in a fact", rules("0:01 -> 2:22", "1:01 -> 2:01"), 1, 2, 2, 1);
        isCore("all eight nulls", rules("0:01 -> 2:02", "1:01 -> 2:02"), 2, 2, 3, 3, 4, 4, 5, 5, 6, 6, 7, 7, 8, 8);
        isCore("a ring that can be turned", rules("0:01 -> 2:23 2:32"));
        isCore("two nulls of two relations", rules("0:01 -> 2:02 3:03", "3:01 -> 3:10", "2:01 -> 2:10"));
    }

    private static void keeps() {
        holds("19: it keeps when every target fact is one with its nulls replaced", () -> {
            MappingChase x = chased(rules("0:01 -> 2:02 3:20", "1:01 -> 2:01 3:10"), 1, 3);
            due("both facts of the null fit", x.fold(), 2);
            x = chased(rules("0:01 -> 2:02 3:20", "1:01 -> 2:01 3:11"), 1, 3);
            due("the second one does not", x.fold(), 0);
            x = chased(rules("0:01 -> 3:20 2:02", "1:01 -> 2:00 3:10"), 1, 3);
            due("the first one does not", x.fold(), 0);
        });
        holds("19: constants stay", () -> {
            MappingChase x = chased(rules("1:01 -> 2:01", "0:01 -> 2:02 3:22"), 2, 3, 1, 4);
            due("no constant is told something", x.fold(), 0);
            dueFacts("relation 2", x, 2, "1,4 1,16 2,3");
            x = chased(rules("0:01 -> 2:02", "1:01 -> 2:01"), 1, 15, 15, 15);
            due("15 is a constant", x.fold(), 1);
            dueFacts("relation 2", x, 2, "1,15 15,15");
        });
        holds("19: it folds when not all target facts come out so", () -> {
            MappingChase x = chased(rules("0:01 -> 2:23 2:32", "1:01 -> 2:01"), 3, 7, 7, 3);
            due("a ring onto another one", x.fold(), 2);
            dueFacts("relation 2", x, 2, "3,7 7,3");
        });
        holds("19: a null is told a null, too", () -> {
            MappingChase x = chased(rules("0:01 -> 2:02", "1:01 -> 2:02 3:22"), 1, 1);
            due("fold", x.fold(), 1);
            dueFacts("the one with more facts stays", x, 2, "1,17");
        });
        holds("19: two nulls are told the same value", () -> {
            MappingChase x = chased(rules("0:01 -> 2:23 3:32", "1:01 -> 2:01 3:01"), 9, 9);
            due("fold", x.fold(), 2);
            dueFacts("relation 2", x, 2, "9,9");
            dueFacts("relation 3", x, 3, "9,9");
        });
    }

    private static void answers() {
        holds("19: answers how many target facts there are fewer then: 1", () -> {
            MappingChase x = chased(rules("0:01 -> 2:02", "1:01 -> 2:01"), 1, 3);
            due("fold", x.fold(), 1);
            dueFacts("relation 2", x, 2, "1,3");
        });
        holds("19: fewer in all target relations together", () -> {
            MappingChase x = chased(rules("0:01 -> 2:02 3:20", "2:01 -> 4:10 5:01", "1:01 -> 2:01 3:10"), 1, 3);
            due("facts before", x.size(2) + x.size(3) + x.size(4) + x.size(5), 8);
            due("fold", x.fold(), 4);
            dueFacts("relation 2", x, 2, "1,3");
            dueFacts("relation 3", x, 3, "3,1");
            dueFacts("relation 4", x, 4, "3,1");
            dueFacts("relation 5", x, 5, "1,3");
        });
        holds("19: fewer, with 24 target facts and 8 nulls", () -> {
            MappingChase x = Scenes.of("0:01 -> 2:02 3:02", "1:01 -> 2:01 3:01");
            for (int i = 0; i < 8; i++) {
                x.fact(0, i, i);
            }
            Scenes.facts(x, 1, 0, 15, 1, 14, 2, 13, 7, 0);
            Scenes.chase(x);
            due("finished", x.state(), 2);
            due("facts before", x.size(2) + x.size(3), 24);
            due("nulls before", x.nulls(), 8);
            due("fold", x.fold(), 8);
            due("nulls then", x.nulls(), 4);
            dueFacts("relation 2", x, 2, "0,15 1,14 2,13 3,19 4,20 5,21 6,22 7,0");
            dueFacts("relation 3", x, 3, "0,15 1,14 2,13 3,19 4,20 5,21 6,22 7,0");
            due("fold again", x.fold(), 0);
        });
    }

    private static void firstMap() {
        holds("19: the one comes first that tells the lower value", () -> {
            MappingChase x = foldable(2);
            dueFacts("before", x, 2, "1,16 1,17");
            due("fold", x.fold(), 1);
            dueFacts("both are told 16", x, 2, "1,16");
        });
        holds("19: for the least null for which they differ", () -> {
            MappingChase x = chased(rules("0:01 -> 2:02 2:03", "1:01 -> 3:02 3:03"), 1, 1);
            dueFacts("relation 2 before", x, 2, "1,16 1,17");
            dueFacts("relation 3 before", x, 3, "1,18 1,19");
            due("both fold at once", x.fold(), 2);
            dueFacts("relation 2", x, 2, "1,16");
            dueFacts("relation 3", x, 3, "1,18");
        });
        holds("19: the first map that folds, not the one that folds the most", () -> {
            MappingChase x = chain();
            due("fold", x.fold(), 2);
            due("there is more to fold", x.fold(), 1);
            due("there is no more", x.fold(), 0);
            dueFacts("relation 2", x, 2, "18,18");
            dueFacts("relation 3", x, 3, "18,18");
        });
        holds("19: a map that only changes names is passed over for the next one", () -> {
            MappingChase x = chased(rules("0:01 -> 2:23 2:32", "1:01 -> 3:23 3:32", "3:01 -> 2:01"), 1, 1);
            dueFacts("two rings", x, 2, "16,17 17,16 18,19 19,18");
            due("fold", x.fold(), 2);
            dueFacts("16 and 17 go onto 18 and 19", x, 2, "18,19 19,18");
        });
    }

    /** Relation 2 is 16 to 17 to 18 to itself; relation 3 is the same without 16. */
    private static MappingChase chain() {
        MappingChase x = chased(rules("0:00 -> 2:12 3:23", "3:01 -> 2:01 2:11", "3:01 -> 3:11"));
        dueFacts("relation 2 before", x, 2, "16,17 17,18 18,18");
        dueFacts("relation 3 before", x, 3, "17,18 18,18");
        return x;
    }

    private static void replaces() {
        holds("19: replaces the nulls by what the map tells, all at once", () -> {
            MappingChase x = chain();
            x.fold();
            dueFacts("16 is 17, and 17 is 18", x, 2, "17,18 18,18");
            dueFacts("17 is 18", x, 3, "18,18");
        });
        holds("19: in all target facts, in both places", () -> {
            MappingChase x = chased(rules("0:01 -> 2:02 3:20", "2:01 -> 4:11 5:10", "1:01 -> 2:01 3:10"), 1, 9);
            due("nulls before", x.nulls(), 1);
            due("fold", x.fold(), 4);
            due("nulls then", x.nulls(), 0);
            dueFacts("relation 4", x, 4, "9,9");
            dueFacts("relation 5", x, 5, "9,1");
        });
        holds("19: source facts stay", () -> {
            MappingChase x = foldable(2);
            String before = Scenes.show(x, 0) + "|" + Scenes.show(x, 1);
            x.fold();
            SENTENCES.due("source facts", Scenes.show(x, 0) + "|" + Scenes.show(x, 1), before);
        });
        holds("19: what is certain stays", () -> {
            MappingChase x = chased(rules("0:01 -> 2:02 3:20", "1:01 -> 2:01 3:10", "2:01 3:12 ? 02"), 1, 3);
            due("before", x.answers(), 1);
            due("fold", x.fold(), 2);
            due("then", x.answers(), 1);
            due("then", x.answer(0), 17);
        });
        holds("19: behind a reset the chase makes again what was folded", () -> {
            MappingChase x = foldable(2);
            x.fold();
            x.reset();
            x.start();
            x.run(99);
            dueFacts("relation 2", x, 2, "1,16 1,17");
            due("fold", x.fold(), 1);
        });
    }
}
