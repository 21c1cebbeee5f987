/** Promises 19 to 21: fold (its limit is in FoldLimitTest), answers, answer. */
public final class OutcomeTest {
    private static final Checks CHECKS = new Checks();

    public static void main(String[] args) {
        foldInOtherStates();
        foldNothing();
        foldOnce();
        foldTakesFirstMap();
        foldOfNamesAlone();
        foldAllAtOnce();
        answersInOtherStates();
        answersAreConstants();
        answersInOrder();
        answersFollowTheQuery();
        CHECKS.end();
    }

    private static void due(String call, long got, long want) {
        CHECKS.due(call, got, want);
    }

    private static void dueFacts(String call, MappingChase x, int relation, String want) {
        CHECKS.due(call, Scenes.show(x, relation), want);
    }

    private static int[] atom(int relation, int v, int w) {
        return Scenes.atom(relation, v, w);
    }

    private static void foldInOtherStates() {
        for (int state = 0; state < 5; state++) {
            MappingChase x = Scenes.inState(state);
            due("fold in state " + state, x.fold(), state == 2 ? 0 : MappingChase.NONE);
            due("fold, the state stays", x.state(), state);
        }
    }

    private static void foldNothing() {
        MappingChase x = new MappingChase();
        Scenes.chase(x);
        due("fold no facts", x.fold(), 0);
        x = Scenes.copying();
        Scenes.facts(x, 0, 1, 2, 3, 4);
        Scenes.chase(x);
        due("fold no nulls", x.fold(), 0);
        dueFacts("fold no nulls", x, 2, "1,2 3,4");
    }

    private static void foldOnce() {
        MappingChase x = new MappingChase();
        Scenes.generator(x, atom(0, 0, 1), atom(2, 0, 2), atom(3, 2, 1));
        Scenes.generator(x, atom(1, 0, 1), atom(2, 0, 1), atom(3, 1, 1));
        Scenes.facts(x, 0, 1, 5, 2, 6);
        Scenes.facts(x, 1, 1, 5);
        Scenes.chase(x);
        dueFacts("before the fold", x, 2, "1,5 1,16 2,17");
        due("fold", x.fold(), 2);
        due("fold, still finished", x.state(), 2);
        dueFacts("after the fold", x, 2, "1,5 2,17");
        dueFacts("after the fold", x, 3, "5,5 17,6");
        due("nulls after the fold", x.nulls(), 1);
        due("fold again", x.fold(), 0);
    }

    /** Which of the maps that fold is taken shows in the nulls that are left. */
    private static void foldTakesFirstMap() {
        MappingChase x = new MappingChase();
        Scenes.generator(x, atom(0, 0, 1), atom(2, 0, 2));
        Scenes.generator(x, atom(1, 0, 1), atom(2, 1, 0));
        Scenes.facts(x, 0, 1, 1, 2, 2);
        Scenes.facts(x, 1, 7, 1, 3, 1, 4, 2, 9, 2);
        Scenes.chase(x);
        dueFacts("all told the least", x, 2, "1,3 1,7 1,16 2,4 2,9 2,17");
        due("both at once", x.fold(), 2);
        dueFacts("all told the least", x, 2, "1,3 1,7 2,4 2,9");
        x = new MappingChase();
        Scenes.generator(x, atom(0, 0, 1), atom(2, 2, 0), atom(3, 2, 3));
        Scenes.generator(x, atom(0, 0, 1), atom(2, 2, 0), atom(4, 2, 0));
        Scenes.facts(x, 0, 1, 1);
        Scenes.chase(x);
        dueFacts("two nulls that are needed", x, 2, "16,1 18,1");
        due("neither folds", x.fold(), 0);
        x = new MappingChase();
        Scenes.generator(x, atom(0, 0, 0), atom(2, 0, 1), atom(3, 1, 2));
        Scenes.generator(x, atom(0, 0, 0), atom(2, 0, 1), atom(4, 1, 0));
        Scenes.generator(x, atom(4, 0, 1), atom(3, 0, 2));
        Scenes.facts(x, 0, 5, 5);
        Scenes.chase(x);
        dueFacts("before the first map", x, 3, "16,17 18,19");
        due("the null with less told folds", x.fold(), 2);
        dueFacts("the greater null stays", x, 3, "18,19");
    }

    /** A ring of nulls can be turned, which changes names alone and so does not fold. */
    private static void foldOfNamesAlone() {
        MappingChase x = new MappingChase();
        Scenes.generator(x, atom(0, 0, 1), atom(2, 2, 3), atom(2, 3, 2));
        Scenes.equation(x, 0, 1, atom(2, 0, 0), atom(2, 1, 1));
        Scenes.facts(x, 0, 1, 1);
        Scenes.chase(x);
        dueFacts("a ring of two", x, 2, "16,17 17,16");
        due("a ring of two", x.fold(), 0);
        dueFacts("a ring of two stays", x, 2, "16,17 17,16");
        x.reset();
        Scenes.generator(x, atom(1, 0, 1), atom(2, 0, 1));
        Scenes.facts(x, 1, 7, 3, 3, 7);
        Scenes.chase(x);
        due("the ring of two onto one of constants", x.fold(), 2);
        dueFacts("the ring of constants", x, 2, "3,7 7,3");
    }

    /** The values are replaced all at once: a null may be told a null that is itself replaced. */
    private static void foldAllAtOnce() {
        MappingChase x = new MappingChase();
        Scenes.generator(x, atom(0, 0, 0), atom(2, 1, 2), atom(2, 2, 3));
        Scenes.generator(x, atom(0, 0, 0), atom(3, 1, 1));
        Scenes.generator(x, atom(1, 0, 1), atom(2, 0, 1));
        Scenes.facts(x, 0, 5, 5);
        Scenes.facts(x, 1, 1, 2, 2, 3);
        Scenes.chase(x);
        dueFacts("before", x, 2, "1,2 2,3 16,17 17,18");
        dueFacts("before", x, 3, "19,19");
        due("a way of nulls onto a way of constants", x.fold(), 2);
        dueFacts("after", x, 2, "1,2 2,3");
        dueFacts("after", x, 3, "19,19");
    }

    private static void answersInOtherStates() {
        for (int state = 0; state < 5; state++) {
            MappingChase x = Scenes.inState(state);
            due("answers with no query in state " + state, x.answers(), MappingChase.NONE);
            due("answer with no query in state " + state, x.answer(0), MappingChase.NONE);
            Scenes.query(x, 0, 1, atom(2, 0, 1));
            due("answers in state " + state, x.answers(), state == 2 ? 1 : MappingChase.NONE);
            due("answer in state " + state, x.answer(0), state == 2 ? 18 : MappingChase.NONE);
        }
    }

    private static void answersAreConstants() {
        MappingChase x = new MappingChase();
        Scenes.generator(x, atom(0, 0, 1), atom(2, 0, 2), atom(3, 2, 1));
        Scenes.facts(x, 0, 1, 5, 1, 6, 2, 5);
        Scenes.chase(x);
        Scenes.query(x, 0, 1, atom(2, 0, 1));
        due("a pair with a null is not certain", x.answers(), 0);
        due("a pair with a null is no answer", x.answer(0), MappingChase.NONE);
        Scenes.query(x, 0, 2, atom(2, 0, 1), atom(3, 1, 2));
        due("a null between is fine", x.answers(), 3);
        Scenes.query(x, 0, 0, atom(2, 0, 1));
        due("one variable twice", x.answers(), 2);
        due("one variable twice, 1", x.answer(0), 17);
        due("one variable twice, 2", x.answer(1), 34);
        Scenes.query(x, 1, 1, atom(2, 0, 1));
        due("nulls alone", x.answers(), 0);
        Scenes.query(x, 0, 3, atom(2, 0, 1), atom(2, 3, 2), atom(3, 1, 2));
        due("a query that nothing matches", x.answers(), 0);
        Scenes.query(x, 0, 0, atom(2, 0, 0));
        due("an atom with one variable twice", x.answers(), 0);
    }

    private static void answersInOrder() {
        MappingChase x = Scenes.copying();
        Scenes.facts(x, 0, 15, 15, 0, 0, 9, 2, 2, 9, 9, 0);
        Scenes.query(x, 0, 1, atom(2, 0, 1));
        Scenes.chase(x);
        int[] want = {0, 2 * 16 + 9, 9 * 16, 9 * 16 + 2, 255};
        due("answers", x.answers(), want.length);
        for (int k = 0; k < want.length; k++) {
            due("answer " + k, x.answer(k), want[k]);
        }
        for (int k : new int[] {-1, want.length, Integer.MIN_VALUE, Integer.MAX_VALUE}) {
            due("answer " + k, x.answer(k), MappingChase.NONE);
        }
        Scenes.query(x, 0, 3, atom(2, 0, 1), atom(2, 2, 3));
        due("each pair counts once", x.answers(), 16);
        due("the last pair", x.answer(15), 255);
        due("no further pair", x.answer(16), MappingChase.NONE);
    }

    private static void answersFollowTheQuery() {
        MappingChase x = Scenes.copying();
        Scenes.facts(x, 0, 1, 2);
        Scenes.facts(x, 1, 3, 4, 5, 6);
        Scenes.chase(x);
        Scenes.query(x, 0, 1, atom(2, 0, 1));
        due("the first query", x.answers(), 1);
        x.open(2);
        x.body(3, 0, 1);
        x.pair(1, 0);
        due("a draft is no query", x.answer(0), 18);
        x.close();
        due("the query in its place", x.answers(), 2);
        due("the query in its place", x.answer(0), 67);
        x.open(2);
        due("a refused close leaves the query", x.close(), MappingChase.EMPTY);
        due("a refused close leaves the query", x.answer(1), 101);
    }
}
