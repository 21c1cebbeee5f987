import java.util.ArrayList;
import java.util.LinkedHashMap;
import java.util.List;
import java.util.Map;
import java.util.TreeSet;
import java.util.function.Supplier;

/**
 * "A call that is refused changes nothing": every call with its edges, in every state and with every
 * kind of draft. Whichever of them is refused, the object is as one that never had the call.
 */
public final class RefusalTest {
    private static final String[] DRAFTS = {
        "", "->", "0:01 ->", "-> 2:01", "1:01 -> 3:10", "2:01 0:01 -> 2:01", "0:01 -> 1:01", "0:01 0:12 1:23 -> 2:03 3:12",
        "=", "2:01 =", "= 01", "2:01 = 01", "0:01 = 01", "2:01 = 23", "2:01 3:12 4:23 = 03",
        "?", "2:01 ?", "? 01", "2:01 ? 01", "1:01 ? 01", "2:01 ? 23", "2:01 3:12 4:23 ? 03",
    };
    private static final String[] MUST_BE_SEEN = {
        "open 0", "body -3", "head -3", "pair 0", "close -3", "close -4", "close -5", "close -6", "close -7", "close -8",
        "drop -3", "fact -3", "fact -8", "take 0", "start -3", "start -9", "step -3", "run -3", "size -3", "at -3",
        "fold -3", "fold -8", "answers -3", "answer -3",
    };

    private final Sentences sentences = new Sentences();
    private final Map<String, Sentences.Call> calls = new LinkedHashMap<>();
    private final TreeSet<String> seen = new TreeSet<>();

    public static void main(String[] args) {
        RefusalTest test = new RefusalTest();
        test.addCalls();
        test.sentences.holds("a call that is refused changes nothing", test::refuseAll);
        test.sentences.holds("each kind of refusal was seen", test::lookAtSeen);
        test.sentences.end();
    }

    private static List<Supplier<MappingChase>> scenes() {
        List<Supplier<MappingChase>> scenes = new ArrayList<>();
        for (int state = 0; state < 5; state++) {
            for (String draft : DRAFTS) {
                int number = state;
                scenes.add(() -> withDraft(Scenes.inState(number), draft));
                scenes.add(() -> withDraft(withQuery(Scenes.inState(number)), draft));
            }
        }
        for (String draft : DRAFTS) {
            scenes.add(() -> withDraft(Scenes.of("0:01 -> 2:01", "2:01 -> 2:12"), draft));
            scenes.add(() -> withDraft(brimful(), draft));
        }
        scenes.add(RefusalTest::longFold);
        return scenes;
    }

    private static MappingChase withDraft(MappingChase x, String draft) {
        return draft.isEmpty() ? x : Scenes.draft(x, draft);
    }

    private static MappingChase withQuery(MappingChase x) {
        Scenes.close(x, "2:01 ? 10");
        return x;
    }

    /** As many dependencies and source facts as there can be. */
    private static MappingChase brimful() {
        MappingChase x = Scenes.of("0:01 -> 2:01", "1:01 -> 3:02", "2:01 -> 4:10", "3:01 4:02 = 12", "0:01 1:12 -> 5:02",
                "5:01 -> 5:11");
        for (int i = 0; i < 12; i++) {
            x.fact(i % 4 == 0 ? 1 : 0, i, i + 1);
        }
        return x;
    }

    private static MappingChase longFold() {
        MappingChase x = Scenes.of("0:11 -> 3:03 4:32", "1:11 -> 5:03 5:23", "1:11 -> 2:03", "1:01 -> 4:01");
        Scenes.facts(Scenes.facts(x, 0, 1, 1), 1, 1, 1, 2, 3, 4, 5, 6, 7, 8, 9, 10, 11, 12, 13);
        Scenes.chase(x);
        return x;
    }

    private void addCalls() {
        for (int wrong : new int[] {-1, 3, 256}) {
            calls.put("open " + wrong, x -> Sentences.flag(x.open(wrong)));
        }
        for (int[] a : new int[][] {{2, 0, 1}, {0, 3, 3}, {-1, 0, 1}, {6, 0, 1}, {2, -1, 1}, {2, 4, 1}, {2, 0, -1}, {2, 0, 4}}) {
            calls.put("body " + a[0] + " " + a[1] + " " + a[2], x -> x.body(a[0], a[1], a[2]));
            calls.put("head " + a[0] + " " + a[1] + " " + a[2], x -> x.head(a[0], a[1], a[2]));
            calls.put("pair " + a[1] + " " + a[2], x -> Sentences.flag(x.pair(a[1], a[2])));
        }
        for (int[] a : new int[][] {{0, 1, 2}, {1, 15, 15}, {2, 1, 2}, {-1, 1, 2}, {6, 1, 2}, {0, 16, 2}, {0, 1, 16}, {0, -1, 2},
                {0, 33, 2}, {0, 1, 34}}) {
            calls.put("fact " + a[0] + " " + a[1] + " " + a[2], x -> x.fact(a[0], a[1], a[2]));
            calls.put("take " + a[0] + " " + a[1] + " " + a[2], x -> Sentences.flag(x.take(a[0], a[1], a[2])));
        }
        calls.put("close", MappingChase::close);
        calls.put("drop", MappingChase::drop);
        calls.put("start", MappingChase::start);
        calls.put("step", MappingChase::step);
        calls.put("fold", MappingChase::fold);
        calls.put("answers", MappingChase::answers);
        for (int k : new int[] {Integer.MIN_VALUE, -1, 0, 1, Integer.MAX_VALUE}) {
            calls.put("run " + k, x -> x.run(k));
            calls.put("answer " + k, x -> x.answer(k));
            calls.put("at 2 " + k, x -> x.at(2, k));
            calls.put("at 6 " + k, x -> x.at(6, k));
            calls.put("size " + k, x -> x.size(k));
        }
    }

    private void refuseAll() {
        for (Supplier<MappingChase> scene : scenes()) {
            for (Map.Entry<String, Sentences.Call> call : calls.entrySet()) {
                String method = call.getKey().split(" ")[0];
                long answer = call.getValue().of(scene.get());
                boolean answersFlag = method.equals("open") || method.equals("pair") || method.equals("take");
                if (answersFlag ? answer == 0 : answer <= MappingChase.NONE) {
                    seen.add(method + " " + answer);
                    sentences.refused(call.getKey(), scene, call.getValue(), answer);
                }
            }
        }
    }

    private void lookAtSeen() {
        for (String kind : MUST_BE_SEEN) {
            sentences.due(kind, seen.contains(kind), true);
        }
        sentences.due("kinds of refusal", seen.size(), MUST_BE_SEEN.length);
    }
}
