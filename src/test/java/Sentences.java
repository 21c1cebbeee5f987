import java.util.TreeSet;
import java.util.function.Supplier;

/**
 * Tests that hold one sentence of the document each, or one of the cases that a sentence names. A
 * test is told by the promise's number and the words, and these are printed when it fails.
 */
final class Sentences {
    /** A call that answers a number; a boolean counts 1 or 0. */
    interface Call {
        long of(MappingChase x);
    }

    private final Checks checks = new Checks();
    private final TreeSet<String> told = new TreeSet<>();

    void holds(String words, Runnable test) {
        int madeBefore = checks.made();
        int wrongBefore = checks.wrong();
        test.run();
        due("the test makes checks", checks.made() > madeBefore, true);
        due("the words have one test", told.add(words), true);
        if (checks.wrong() > wrongBefore) {
            System.out.println("BROKEN " + words);
        }
    }

    void due(String call, long got, long want) {
        checks.due(call, got, want);
    }

    void due(String call, boolean got, boolean want) {
        checks.due(call, got, want);
    }

    void due(String call, String got, String want) {
        checks.due(call, got, want);
    }

    void dueFacts(String call, MappingChase x, int relation, String want) {
        checks.due(call, Scenes.show(x, relation), want);
    }

    /**
     * The call is refused with this answer and changes nothing: of two objects from the same scene,
     * of which one alone has the call, the same is seen on every way on.
     */
    void refused(String name, Supplier<MappingChase> scene, Call call, long want) {
        due(name, call.of(scene.get()), want);
        for (WayOn way : WayOn.values()) {
            MappingChase without = scene.get();
            MappingChase with = scene.get();
            call.of(with);
            due(name + " changes nothing, seen by " + way, way.go(with), way.go(without));
        }
    }

    void refused(String name, Supplier<MappingChase> scene, Call call) {
        refused(name, scene, call, MappingChase.NONE);
    }

    static long flag(boolean answer) {
        return answer ? 1 : 0;
    }

    void end() {
        System.out.println(told.size() + " sentences");
        checks.end();
    }
}
