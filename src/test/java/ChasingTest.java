/** Promises 11 to 18: start, step, run, reset, state, size, at, nulls. */
public final class ChasingTest {
    private static final Checks CHECKS = new Checks();

    public static void main(String[] args) {
        start();
        stepAnswers();
        stepTakesLowestDependency();
        stepTakesFirstMatch();
        stepLeavesWhatIsSatisfied();
        stepMakesNulls();
        stepMakesEqual();
        stepFails();
        stepIsFullOfNulls();
        stepIsFullOfFacts();
        fullCountsFactsOnce();
        run();
        reset();
        sizeAndAt();
        nulls();
        CHECKS.end();
    }

    private static void due(String call, long got, long want) {
        CHECKS.due(call, got, want);
    }

    private static void dueFacts(String call, MappingChase x, int relation, String want) {
        CHECKS.due(call, Scenes.show(x, relation), want);
    }

    private static int[] atom(int relation, int v, int w) {
        return Scenes.atom(relation, v, w);
    }

    private static void start() {
        MappingChase x = new MappingChase();
        due("start", x.start(), 0);
        due("state after start", x.state(), 1);
        for (int state = 1; state < 5; state++) {
            x = Scenes.inState(state);
            int targets = x.size(2);
            due("start in state " + state, x.start(), MappingChase.NONE);
            due("start refused in state " + state, x.state() * 100 + x.size(2), state * 100 + targets);
        }
        x = new MappingChase();
        Scenes.generator(x, atom(2, 0, 1), atom(2, 1, 2));
        due("start cyclic", x.start(), MappingChase.CYCLIC);
        due("start cyclic, still building", x.state(), 0);
        x.drop();
        due("start when dropped", x.start(), 0);
        due("start has no target facts", x.size(2), 0);
    }

    private static void stepAnswers() {
        for (int state = 0; state < 5; state++) {
            if (state != 1) {
                MappingChase x = Scenes.inState(state);
                due("state " + state, x.state(), state);
                due("step in state " + state, x.step(), MappingChase.NONE);
                due("step refused in state " + state, x.state(), state);
            }
        }
        MappingChase x = Scenes.inState(1);
        due("step makes a fact", x.step(), 1);
        due("step, still chasing", x.state(), 1);
        due("step finishes", x.step(), 0);
        due("step, finished", x.state(), 2);
    }

    private static void stepTakesLowestDependency() {
        MappingChase x = Scenes.copying();
        Scenes.generator(x, atom(2, 0, 1), atom(4, 1, 0));
        Scenes.facts(x, 0, 5, 6, 7, 8);
        Scenes.facts(x, 1, 1, 2);
        x.start();
        due("lowest dependency, step 1", x.step(), 1);
        due("lowest dependency, step 2", x.step(), 1);
        due("lowest dependency, step 3", x.step(), 2);
        due("lowest dependency, step 4", x.step(), 3);
        dueFacts("lowest dependency", x, 4, "6,5");
        due("lowest dependency, step 5", x.step(), 3);
        due("lowest dependency, step 6", x.step(), 0);
        x = new MappingChase();
        Scenes.equation(x, 0, 1, atom(2, 0, 1));
        Scenes.generator(x, atom(0, 0, 1), atom(2, 2, 1));
        Scenes.facts(x, 0, 1, 2, 1, 3);
        x.start();
        due("back to the lowest, step 1", x.step(), 2);
        due("back to the lowest, step 2", x.step(), 1);
        dueFacts("back to the lowest", x, 2, "2,2");
        due("back to the lowest, step 3", x.step(), 2);
        dueFacts("a null that is free again", x, 2, "2,2 16,3");
    }

    private static void stepTakesFirstMatch() {
        MappingChase x = new MappingChase();
        Scenes.generator(x, atom(0, 1, 0), atom(2, 1, 0));
        Scenes.facts(x, 0, 1, 9, 2, 8, 3, 8);
        x.start();
        x.step();
        dueFacts("first match by the least variable, not the place", x, 2, "2,8");
        x.step();
        dueFacts("second match", x, 2, "2,8 3,8");
        x.step();
        dueFacts("third match", x, 2, "1,9 2,8 3,8");
        x = new MappingChase();
        x.open(0);
        x.body(0, 3, 2);
        x.body(1, 1, 3);
        x.head(2, 1, 2);
        x.close();
        Scenes.facts(x, 0, 4, 5, 6, 1);
        Scenes.facts(x, 1, 0, 4, 7, 4, 0, 6);
        x.start();
        x.step();
        dueFacts("first of a body of two", x, 2, "0,1");
        x.step();
        dueFacts("second of a body of two", x, 2, "0,1 0,5");
        due("two more steps", x.run(9), 1);
        dueFacts("all of a body of two", x, 2, "0,1 0,5 7,5");
        x = new MappingChase();
        x.open(0);
        x.body(0, 0, 0);
        x.head(2, 0, 0);
        x.close();
        Scenes.facts(x, 0, 1, 2, 3, 3);
        Scenes.chase(x);
        dueFacts("an atom with one variable twice", x, 2, "3,3");
    }

    private static void stepLeavesWhatIsSatisfied() {
        MappingChase x = Scenes.copying();
        Scenes.generator(x, atom(0, 0, 1), atom(2, 0, 2));
        Scenes.generator(x, atom(0, 0, 1), atom(2, 0, 2), atom(3, 2, 3));
        Scenes.facts(x, 0, 1, 2, 4, 5);
        Scenes.facts(x, 1, 2, 7);
        due("steps beside what is satisfied", Scenes.chase(x), 4);
        dueFacts("satisfied with a free variable", x, 2, "1,2 4,5 4,16");
        dueFacts("both atoms with one value for the free variable", x, 3, "2,7 16,17");
        x = new MappingChase();
        Scenes.generator(x, atom(0, 0, 1), atom(2, 2, 3));
        Scenes.facts(x, 0, 1, 2, 4, 5);
        due("a head of free variables alone is made once", Scenes.chase(x), 1);
        dueFacts("a head of free variables alone", x, 2, "16,17");
        x = new MappingChase();
        Scenes.generator(x, atom(0, 0, 1), atom(2, 0, 1));
        Scenes.generator(x, atom(0, 0, 1), atom(2, 2, 2));
        Scenes.facts(x, 0, 1, 2, 4, 5);
        due("one free variable twice asks for the same value", Scenes.chase(x), 3);
        dueFacts("one free variable twice", x, 2, "1,2 4,5 16,16");
    }

    private static void stepMakesNulls() {
        MappingChase x = new MappingChase();
        Scenes.generator(x, atom(0, 1, 1), atom(2, 3, 1), atom(3, 3, 0));
        Scenes.facts(x, 0, 5, 5, 2, 2);
        x.start();
        x.step();
        dueFacts("the least free variable gets the least null", x, 3, "17,16");
        dueFacts("the free variable in both atoms", x, 2, "17,2");
        x.step();
        dueFacts("different nulls each time", x, 3, "17,16 19,18");
    }

    private static void stepMakesEqual() {
        MappingChase x = new MappingChase();
        Scenes.generator(x, atom(0, 0, 1), atom(2, 0, 2), atom(3, 2, 1));
        Scenes.generator(x, atom(1, 0, 1), atom(2, 0, 1));
        Scenes.equation(x, 1, 2, atom(2, 0, 1), atom(2, 0, 2));
        Scenes.facts(x, 0, 1, 5, 1, 6, 2, 5);
        Scenes.facts(x, 1, 2, 9);
        x.start();
        due("facts first", x.run(4), 4);
        dueFacts("before", x, 2, "1,16 1,17 2,9 2,18");
        due("equal nulls", x.step(), 3);
        dueFacts("the greater null is replaced", x, 2, "1,16 2,9 2,18");
        dueFacts("in all target facts", x, 3, "16,5 16,6 18,5");
        due("a null and a constant", x.step(), 3);
        dueFacts("the null is replaced by the constant", x, 2, "1,16 2,9");
        dueFacts("in all target facts again", x, 3, "9,5 16,5 16,6");
        due("finished", x.step(), 0);
        x = Scenes.copying();
        Scenes.equation(x, 0, 0, atom(2, 0, 1));
        Scenes.facts(x, 0, 1, 2);
        due("a pair of one variable is always satisfied", Scenes.chase(x), 1);
        due("a pair of one variable, finished", x.state(), 2);
    }

    private static void stepFails() {
        MappingChase x = Scenes.copying();
        Scenes.equation(x, 2, 1, atom(2, 0, 1), atom(2, 0, 2));
        Scenes.facts(x, 0, 1, 2, 1, 3);
        x.start();
        x.run(2);
        due("step fails", x.step(), -1);
        due("failed", x.state(), 3);
        dueFacts("the facts stay", x, 2, "1,2 1,3");
        due("a step when failed", x.step(), MappingChase.NONE);
    }

    private static void stepIsFullOfNulls() {
        MappingChase x = new MappingChase();
        Scenes.generator(x, atom(0, 0, 1), atom(2, 0, 2));
        Scenes.generator(x, atom(0, 0, 1), atom(3, 0, 2), atom(4, 0, 3));
        for (int i = 0; i < 7; i++) {
            x.fact(0, i, i);
        }
        x.start();
        due("seven nulls", x.run(7), 7);
        due("two more are not there", x.step(), -2);
        due("full", x.state(), 4);
        due("nothing of that is done", x.size(2) * 100 + x.size(3) * 10 + x.size(4), 700);
        due("nulls when full", x.nulls(), 7);
        x = new MappingChase();
        Scenes.generator(x, atom(0, 0, 1), atom(2, 0, 2));
        for (int i = 0; i < 8; i++) {
            x.fact(0, i, i);
        }
        due("eight nulls are there", Scenes.chase(x), 8);
        due("eight nulls, finished", x.state(), 2);
        x.reset();
        x.fact(0, 8, 8);
        due("nine are not", Scenes.chase(x), 8);
        due("nine nulls, full", x.state(), 4);
    }

    /** Twelve source facts, twice each: 24 target facts, and then one more. */
    private static MappingChase brimful() {
        MappingChase x = new MappingChase();
        Scenes.generator(x, atom(0, 0, 1), atom(2, 0, 1), atom(3, 0, 1));
        for (int i = 0; i < 12; i++) {
            x.fact(0, i, i + 1);
        }
        return x;
    }

    private static void stepIsFullOfFacts() {
        MappingChase x = brimful();
        due("24 facts", Scenes.chase(x), 12);
        due("24 facts, finished", x.state(), 2);
        x.reset();
        Scenes.generator(x, atom(3, 0, 1), atom(4, 0, 1));
        x.start();
        due("24 facts again", x.run(12), 12);
        due("25 facts", x.step(), -2);
        due("25 facts, full", x.state(), 4);
        due("25 facts, not made", x.size(2) * 100 + x.size(3) + x.size(4), 1212);
    }

    private static void fullCountsFactsOnce() {
        MappingChase x = brimful();
        Scenes.generator(x, atom(2, 0, 1), atom(4, 0, 0), atom(4, 0, 0));
        x.take(0, 11, 12);
        x.start();
        x.run(11);
        due("22 facts", x.size(2) + x.size(3), 22);
        due("23: one fact by both atoms", x.step(), 2);
        due("24: one fact by both atoms", x.step(), 2);
        due("25: one fact by both atoms", x.step(), -2);
        x = brimful();
        Scenes.generator(x, atom(2, 0, 1), atom(2, 0, 1), atom(4, 1, 1));
        x.take(0, 11, 12);
        x.start();
        x.run(11);
        due("23: one of the atoms is there", x.step(), 2);
        due("24: one of the atoms is there", x.step(), 2);
        due("24 facts are not full", x.state(), 1);
        due("25: one of the atoms is there", x.step(), -2);
        x = brimful();
        x.take(0, 11, 12);
        Scenes.generator(x, atom(0, 0, 1), atom(4, 0, 0));
        Scenes.generator(x, atom(0, 0, 1), atom(5, 0, 0), atom(5, 1, 1));
        x.take(0, 10, 11);
        x.start();
        due("20 and 3 facts", x.run(13), 13);
        x.reset();
        x.drop();
        x.drop();
        Scenes.generator(x, atom(0, 0, 1), atom(4, 2, 2));
        Scenes.generator(x, atom(0, 0, 1), atom(5, 0, 1), atom(5, 1, 0));
        x.start();
        due("20, 1, and 2 facts", x.run(12), 12);
        due("two facts where one fits", x.step(), -2);
        due("neither is made", x.size(5), 2);
    }

    private static void run() {
        for (int state = 0; state < 5; state++) {
            if (state != 1) {
                MappingChase x = Scenes.inState(state);
                for (int n : new int[] {Integer.MIN_VALUE, -1, 0, 1, 9}) {
                    due("run " + n + " in state " + state, x.run(n), MappingChase.NONE);
                }
            }
        }
        MappingChase x = Scenes.copying();
        Scenes.facts(x, 0, 1, 2, 3, 4, 5, 6);
        x.start();
        for (int n : new int[] {Integer.MIN_VALUE, -1, 0}) {
            due("run " + n, x.run(n), 0);
            due("run " + n + " makes nothing", x.size(2) * 10 + x.state(), 1);
        }
        due("run 2", x.run(2), 2);
        due("run 2 makes two", x.size(2), 2);
        due("run 1", x.run(1), 1);
        due("run to the count, not the end", x.state(), 1);
        due("run to the end", x.run(1), 0);
        due("run to the end, finished", x.state(), 2);
        x = Scenes.copying();
        Scenes.equation(x, 0, 1, atom(2, 0, 1));
        Scenes.facts(x, 0, 1, 2, 3, 4);
        x.start();
        due("run until failed", x.run(Integer.MAX_VALUE), 2);
        due("run, failed", x.state(), 3);
        x = brimful();
        Scenes.generator(x, atom(3, 0, 1), atom(4, 0, 1));
        x.start();
        due("run until full", x.run(100), 12);
        due("run, full", x.state(), 4);
    }

    private static void reset() {
        for (int state = 0; state < 5; state++) {
            MappingChase x = Scenes.inState(state);
            Scenes.query(x, 0, 1, atom(2, 0, 1));
            x.open(1);
            x.body(2, 0, 1);
            int sources = x.size(0);
            x.reset();
            due("reset, building", x.state(), 0);
            due("reset, no target facts", x.size(2) + x.size(3) + x.size(4) + x.size(5), 0);
            due("reset, no nulls", x.nulls(), 0);
            due("reset, source facts stay", x.size(0), sources);
            due("reset, the draft stays", x.body(2, 0, 1), 2);
            due("reset, dependencies stay", x.drop(), state > 2 ? 1 : 0);
            if (state < 3) {
                Scenes.generator(x, atom(0, 0, 1), atom(2, 0, 1));
            }
            due("reset, start again", x.start(), 0);
            x.run(100);
            due("reset, the query stays", x.answers(), sources);
        }
    }

    private static void sizeAndAt() {
        MappingChase x = Scenes.copying();
        Scenes.generator(x, atom(1, 0, 1), atom(3, 1, 2));
        Scenes.facts(x, 0, 15, 15, 0, 0, 0, 15, 15, 0, 7, 3);
        Scenes.facts(x, 1, 2, 1);
        Scenes.chase(x);
        dueFacts("source facts in order", x, 0, "0,0 0,15 7,3 15,0 15,15");
        dueFacts("target facts in order", x, 2, "0,0 0,15 7,3 15,0 15,15");
        dueFacts("facts with nulls in order", x, 3, "1,16 2,1");
        due("at", x.at(0, 1), 15);
        due("at", x.at(0, 4), 495);
        due("at with a null", x.at(3, 0), 48);
        for (int relation : new int[] {-1, 6, Integer.MIN_VALUE, Integer.MAX_VALUE}) {
            due("size of " + relation, x.size(relation), MappingChase.NONE);
            due("at of " + relation, x.at(relation, 0), MappingChase.NONE);
        }
        for (int k : new int[] {-1, 5, Integer.MIN_VALUE, Integer.MAX_VALUE}) {
            due("at k " + k, x.at(0, k), MappingChase.NONE);
            due("at k " + k, x.at(2, k), MappingChase.NONE);
        }
        due("size of none", x.size(5), 0);
        due("at of none", x.at(5, 0), MappingChase.NONE);
        x = new MappingChase();
        Scenes.generator(x, atom(0, 0, 1), atom(5, 2, 3), atom(5, 3, 0));
        Scenes.facts(x, 0, 1, 1, 2, 2, 3, 3, 4, 4);
        Scenes.chase(x);
        dueFacts("nulls in order", x, 5, "16,17 17,1 18,19 19,2 20,21 21,3 22,23 23,4");
        due("the greatest null", x.at(5, 6), 32 * 22 + 23);
    }

    private static void nulls() {
        MappingChase x = new MappingChase();
        Scenes.generator(x, atom(0, 0, 1), atom(2, 2, 2), atom(3, 2, 0));
        Scenes.generator(x, atom(1, 0, 1), atom(4, 0, 1));
        Scenes.equation(x, 0, 1, atom(2, 0, 0), atom(2, 1, 1));
        Scenes.facts(x, 0, 1, 1, 2, 2);
        Scenes.facts(x, 1, 3, 3);
        due("nulls while building", x.nulls(), 0);
        x.start();
        due("nulls at the start", x.nulls(), 0);
        x.step();
        due("a null counts once", x.nulls(), 1);
        x.run(2);
        due("two nulls, no constants", x.nulls(), 2);
        due("made equal", x.step(), 3);
        due("nulls made equal", x.nulls(), 1);
    }
}
