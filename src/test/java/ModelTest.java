import java.util.Random;

/**
 * Random runs of calls on MappingChase and on ChaseModel, answer held against answer, and the whole
 * of what can be seen of the object after every call. Every seed is fixed, so a fault comes back.
 */
public final class ModelTest {
    private static final int RUNS = 12000;
    private static final int[] ODD = {Integer.MIN_VALUE, -1, 4, 6, 12, 16, 24, 31, 32, 64, Integer.MAX_VALUE};

    private final Checks checks;
    private final Random random;
    private final int seed;
    /** Few target relations make matches, and with them equations that bite, likelier. */
    private final int targets;
    private final MappingChase real = new MappingChase();
    private final ChaseModel model = new ChaseModel();
    private final StringBuilder log = new StringBuilder();

    private ModelTest(Checks checks, int seed) {
        this.checks = checks;
        this.seed = seed;
        this.random = new Random(seed);
        this.targets = 1 + below(4);
    }

    public static void main(String[] args) {
        Checks checks = new Checks();
        int[] states = new int[5];
        int[] folds = new int[3];
        for (int seed = 0; seed < RUNS && checks.wrong() == 0; seed++) {
            ModelTest test = new ModelTest(checks, seed);
            if (seed % 4 == 0) {
                test.playAnyCalls();
            } else if (seed % 20 == 1) {
                test.playNulls(states, folds);
            } else {
                test.playScenario(states, folds);
            }
        }
        for (int state = 2; state < 5; state++) {
            checks.due("runs that reached state " + state + " are enough", states[state] > 50, true);
        }
        checks.due("runs that folded are enough", folds[1] > 50, true);
        checks.due("runs that did not fold are enough", folds[0] > 50, true);
        checks.due("runs that told too much are enough", folds[2] > 20, true);
        System.out.println("states reached: " + java.util.Arrays.toString(states)
                + ", folds that found none, one, too many: " + java.util.Arrays.toString(folds));
        checks.end();
    }

    private void due(String call, int got, int want) {
        log.append(call).append(" -> ").append(want).append('\n');
        checks.due("seed " + seed + ": " + call, got, want);
        if (got != want) {
            System.out.println(log);
        }
    }

    private void due(String call, boolean got, boolean want) {
        due(call, got ? 1 : 0, want ? 1 : 0);
    }

    private int below(int bound) {
        return random.nextInt(bound);
    }

    /** Now and then a number that is out of every range. */
    private int oftenBelow(int bound) {
        return below(40) == 0 ? ODD[below(ODD.length)] : below(bound);
    }

    private void playAnyCalls() {
        for (int i = 0; i < 400; i++) {
            anyCall();
            if (i % 8 == 0) {
                lookAtAll();
            }
        }
    }

    private void anyCall() {
        int x = oftenBelow(4);
        int y = oftenBelow(4);
        int few = oftenBelow(6);
        switch (below(24)) {
            case 0, 1, 2 -> open(oftenBelow(3));
            case 3, 4, 5, 6 -> body(few, x, y);
            case 7, 8, 9 -> head(few, x, y);
            case 10 -> pair(x, y);
            case 11, 12, 13 -> close();
            case 14 -> due("drop()", real.drop(), model.drop());
            case 15, 16 -> fact(oftenBelow(2), oftenBelow(16), oftenBelow(16));
            case 17 -> {
                int a = oftenBelow(16);
                int b = oftenBelow(16);
                due("take(" + few + ", " + a + ", " + b + ")", real.take(few, a, b), model.take(few, a, b));
            }
            case 18 -> due("start()", real.start(), model.start());
            case 19 -> due("step()", real.step(), model.step());
            case 20 -> due("run(" + few + ")", real.run(few), model.run(few));
            case 21 -> due("fold()", real.fold(), model.fold());
            case 22 -> {
                if (below(2) == 0) {
                    real.reset();
                    model.reset();
                }
            }
            default -> usefulDraft();
        }
    }

    private void open(int kind) {
        due("open(" + kind + ")", real.open(kind), model.open(kind));
    }

    private void body(int relation, int v, int w) {
        due("body(" + relation + ", " + v + ", " + w + ")", real.body(relation, v, w), model.body(relation, v, w));
    }

    private void head(int relation, int v, int w) {
        due("head(" + relation + ", " + v + ", " + w + ")", real.head(relation, v, w), model.head(relation, v, w));
    }

    private void pair(int v, int w) {
        due("pair(" + v + ", " + w + ")", real.pair(v, w), model.pair(v, w));
    }

    private void close() {
        due("close()", real.close(), model.close());
    }

    private void fact(int relation, int a, int b) {
        due("fact(" + relation + ", " + a + ", " + b + ")", real.fact(relation, a, b), model.fact(relation, a, b));
    }

    private void usefulDraft() {
        int kind = below(5);
        if (kind < 3) {
            generator(below(3) == 0);
        } else {
            withPair(kind - 2);
        }
    }

    private void generator(boolean fromTargets) {
        open(0);
        int least = fromTargets ? 2 : 0;
        int count = fromTargets ? targets : 2;
        int atoms = 1 + below(3) * below(2);
        for (int i = 0; i < atoms; i++) {
            body(least + below(count), below(3), below(3));
        }
        int heads = 1 + below(2);
        for (int i = 0; i < heads; i++) {
            head(2 + below(targets), below(4), below(4));
        }
        close();
    }

    private void generatorOfNulls(int source) {
        open(0);
        body(source, 1, 1);
        head(2 + below(4), 0, 3);
        boolean turned = below(2) == 0;
        head(2 + below(4), turned ? 3 : 2, turned ? 2 : 3);
        close();
    }

    private void withPair(int kind) {
        open(kind);
        int atoms = 1 + below(3);
        int variables = 1 + below(4);
        int[] used = new int[2 * atoms];
        for (int i = 0; i < atoms; i++) {
            used[2 * i] = below(variables);
            used[2 * i + 1] = below(variables);
            body(2 + below(targets), used[2 * i], used[2 * i + 1]);
        }
        boolean loose = below(20) == 0;
        pair(loose ? below(4) : used[below(2 * atoms)], loose ? below(4) : used[below(2 * atoms)]);
        close();
    }

    private void playScenario(int[] states, int[] folds) {
        int rules = 1 + below(6);
        for (int i = 0; i < rules; i++) {
            if (below(3) == 0) {
                withPair(1);
            } else {
                generator(i > 0 && below(2) == 0);
            }
        }
        withPair(2);
        int constants = 2 + below(4);
        int facts = below(13);
        for (int i = 0; i < facts; i++) {
            fact(below(2), below(constants), below(constants));
        }
        chase(states, folds);
    }

    /** Nulls that hang together among themselves alone: the maps to be tried are many then. */
    private void playNulls(int[] states, int[] folds) {
        generatorOfNulls(below(2));
        generatorOfNulls(below(2));
        if (below(2) == 0) {
            open(0);
            body(1, 1, 1);
            head(2 + below(4), 0, 3);
            close();
        }
        open(0);
        body(1, 0, 1);
        head(2 + below(4), 0, 1);
        close();
        fact(0, 0, 0);
        fact(1, 0, 0);
        int facts = below(10);
        for (int i = 0; i < facts; i++) {
            fact(1, below(16), below(16));
        }
        chase(states, folds);
    }

    private void chase(int[] states, int[] folds) {
        due("acyclic()", real.acyclic(), model.acyclic());
        due("start()", real.start(), model.start());
        for (int i = 0; i < 60 && model.state() == 1; i++) {
            if (below(8) == 0) {
                due("run(3)", real.run(3), model.run(3));
            } else {
                due("step()", real.step(), model.step());
            }
            lookAtAll();
        }
        states[model.state()]++;
        finish(folds);
    }

    private void finish(int[] folds) {
        boolean goesOn = true;
        for (int i = 0; i < 10 && goesOn; i++) {
            int want = model.fold();
            due("fold()", real.fold(), want);
            lookAtAll();
            goesOn = want > 0;
            if (want >= 0 || want == ChaseModel.MANY) {
                folds[want < 0 ? 2 : Math.min(want, 1)]++;
            }
            withPair(2);
        }
        lookAtAll();
    }

    private void lookAtAll() {
        due("state()", real.state(), model.state());
        due("acyclic()", real.acyclic(), model.acyclic());
        due("nulls()", real.nulls(), model.nulls());
        for (int relation = -1; relation < 7; relation++) {
            int size = model.size(relation);
            due("size(" + relation + ")", real.size(relation), size);
            for (int k = -1; k <= size; k++) {
                due("at(" + relation + ", " + k + ")", real.at(relation, k), model.at(relation, k));
            }
        }
        int answers = model.answers();
        due("answers()", real.answers(), answers);
        for (int k = -1; k <= answers; k++) {
            due("answer(" + k + ")", real.answer(k), model.answer(k));
        }
    }
}
