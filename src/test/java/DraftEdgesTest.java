import java.util.function.Supplier;

/** Promises 1 to 6, sentence by sentence: a new object, open, body, head, pair, close. */
public final class DraftEdgesTest {
    private static final Sentences SENTENCES = new Sentences();
    private static final String[] FULL_DRAFTS = {
        "0:01 0:12 1:23 -> 2:03 3:12", "2:01 3:12 4:23 = 03", "2:01 3:12 4:23 ? 03",
    };

    public static void main(String[] args) {
        newObject();
        open();
        body();
        head();
        pair();
        closeAnswers();
        closeRefuses();
        closeRefusesWithTheFirst();
        SENTENCES.end();
    }

    private static void holds(String words, Runnable test) {
        SENTENCES.holds(words, test);
    }

    private static void due(String call, long got, long want) {
        SENTENCES.due(call, got, want);
    }

    private static void due(String call, boolean got, boolean want) {
        SENTENCES.due(call, got, want);
    }

    private static void refused(String name, Supplier<MappingChase> scene, Sentences.Call call, long want) {
        SENTENCES.refused(name, scene, call, want);
    }

    private static void refused(String name, Supplier<MappingChase> scene, Sentences.Call call) {
        SENTENCES.refused(name, scene, call);
    }

    /** A draft beside a dependency and two facts, so that what becomes of it can be seen. */
    private static Supplier<MappingChase> drafting(String rule) {
        return () -> {
            MappingChase x = Scenes.of("0:01 -> 2:01", "2:01 ? 01");
            Scenes.facts(x, 0, 1, 2, 2, 3);
            return Scenes.draft(x, rule);
        };
    }

    private static MappingChase withoutDraft() {
        return Scenes.facts(Scenes.of("0:01 -> 2:01", "2:01 ? 01"), 0, 1, 2, 2, 3);
    }

    private static MappingChase afterDependency() {
        MappingChase x = withoutDraft();
        Scenes.close(x, "1:01 -> 3:01");
        return x;
    }

    private static MappingChase afterQuery() {
        MappingChase x = withoutDraft();
        Scenes.close(x, "2:01 ? 10");
        return x;
    }

    private static MappingChase withSix() {
        MappingChase x = Scenes.of("0:01 -> 2:01", "0:01 -> 3:01", "1:01 -> 2:01", "2:01 2:02 = 12", "2:01 -> 4:10",
                "4:01 -> 5:01");
        return Scenes.facts(x, 0, 1, 2, 3, 4);
    }

    private static void newObject() {
        holds("1: no facts", () -> {
            Scenes.chase(Scenes.facts(Scenes.of("0:01 -> 2:02"), 0, 1, 2));
            MappingChase x = new MappingChase();
            for (int relation = 0; relation < 6; relation++) {
                due("size " + relation, x.size(relation), 0);
                due("at " + relation, x.at(relation, 0), MappingChase.NONE);
            }
            due("nulls", x.nulls(), 0);
            due("the first fact", x.fact(1, 0, 0), 1);
        });
        holds("1: no dependencies", () -> {
            withSix();
            MappingChase x = new MappingChase();
            due("acyclic", x.acyclic(), true);
            due("drop", x.drop(), 0);
            x.fact(0, 1, 1);
            x.start();
            due("nothing to do", x.step(), 0);
            due("the first number", Scenes.close(new MappingChase(), "0:01 -> 2:01"), 0);
        });
        holds("1: no query", () -> {
            afterQuery();
            MappingChase x = new MappingChase();
            Scenes.chase(x);
            due("finished", x.state(), 2);
            due("answers", x.answers(), MappingChase.NONE);
            due("answer", x.answer(0), MappingChase.NONE);
        });
        holds("1: no draft", () -> {
            drafting("0:01 -> 2:01").get();
            due("body", new MappingChase().body(2, 0, 0), MappingChase.NONE);
            due("head", new MappingChase().head(2, 0, 0), MappingChase.NONE);
            due("pair", new MappingChase().pair(0, 0), false);
            due("close", new MappingChase().close(), MappingChase.NONE);
        });
        holds("1: the STATE is BUILDING (0) at first", () -> due("state", new MappingChase().state(), 0));
    }

    private static void open() {
        holds("2: of a generator (kind 0)", () -> {
            MappingChase x = new MappingChase();
            due("open", x.open(0), true);
            due("it has no pair", x.pair(0, 0), false);
            due("it has a head", x.head(2, 0, 0), 1);
        });
        holds("2: an equation (1)", () -> {
            MappingChase x = Scenes.of("0:01 -> 2:01");
            due("open", x.open(1), true);
            due("it has no head", x.head(2, 0, 0), MappingChase.NONE);
            x.body(2, 0, 0);
            due("it has a pair", x.pair(0, 0), true);
            due("it is a dependency", x.close(), 1);
        });
        holds("2: or a query (2)", () -> {
            MappingChase x = Scenes.of("0:01 -> 2:01");
            due("open", x.open(2), true);
            due("it has no head", x.head(2, 0, 0), MappingChase.NONE);
            x.body(2, 0, 0);
            due("it has a pair", x.pair(0, 0), true);
            due("it is no dependency", x.close(), 0);
        });
        holds("2: begins a draft, in place of the one that there is", () -> {
            for (String old : FULL_DRAFTS) {
                for (int kind = 0; kind < 3; kind++) {
                    opensInPlace(old, kind);
                }
            }
        });
        holds("2: false, refused, for another kind", () -> {
            for (int kind : Wrong.KINDS) {
                refused("open " + kind, DraftEdgesTest::withoutDraft, x -> Sentences.flag(x.open(kind)), 0);
                for (String draft : FULL_DRAFTS) {
                    refused("open " + kind, drafting(draft), x -> Sentences.flag(x.open(kind)), 0);
                }
            }
        });
        holds("2: in every state", () -> {
            for (int state = 0; state < 5; state++) {
                for (int kind = 0; kind < 3; kind++) {
                    MappingChase x = Scenes.inState(state);
                    due("open", x.open(kind), true);
                    due("a draft", x.body(2, 0, 0), 1);
                    due("the state", x.state(), state);
                }
            }
        });
    }

    private static void opensInPlace(String old, int kind) {
        MappingChase x = drafting(old).get();
        due("open", x.open(kind), true);
        due("it has no body", x.close(), MappingChase.EMPTY);
        due("the body begins anew", x.body(2, 1, 0), 1);
        due("it has no head or pair", x.close(), MappingChase.EMPTY);
        if (kind == 0) {
            due("the head begins anew", x.head(3, 0, 1), 1);
        } else {
            due("it is given a pair", x.pair(1, 0), true);
        }
        due("close", x.close(), kind == 2 ? 0 : 1);
        Scenes.chase(x);
        if (kind == 0) {
            SENTENCES.dueFacts("by the new body and head", x, 3, "2,1 3,2");
        } else if (kind == 1) {
            due("by the new pair", x.state(), 3);
        } else {
            due("by the new query", x.answer(0), 18);
        }
    }

    private static void body() {
        holds("3: answers how many it has then", () -> {
            for (int kind = 0; kind < 3; kind++) {
                MappingChase x = new MappingChase();
                x.open(kind);
                due("one", x.body(2, 0, 1), 1);
                due("the same again is two", x.body(2, 0, 1), 2);
                due("three", x.body(2, 1, 1), 3);
            }
        });
        holds("3: NONE, refused, when there is no draft", () -> {
            refused("before one", MappingChase::new, x -> x.body(2, 0, 1));
            refused("behind a dependency", DraftEdgesTest::afterDependency, x -> x.body(2, 0, 1));
            refused("behind a query", DraftEdgesTest::afterQuery, x -> x.body(2, 0, 1));
        });
        holds("3: NONE, refused, when it has 3", () -> {
            for (String draft : FULL_DRAFTS) {
                refused(draft, drafting(draft), x -> x.body(2, 0, 1));
            }
        });
        holds("3: NONE, refused, when the relation is not 0 .. 5", () -> {
            for (int relation : Wrong.RELATIONS) {
                refused("body of " + relation, drafting("2:01 ->"), x -> x.body(relation, 0, 1));
            }
        });
        holds("3: the relations 0 .. 5 are taken", () -> {
            for (int relation = 0; relation < 6; relation++) {
                due("body of " + relation, drafting("->").get().body(relation, 0, 1), 1);
            }
        });
        holds("3: NONE, refused, when a variable is not 0 .. 3", () -> {
            for (int wrong : Wrong.VARIABLES) {
                refused("first " + wrong, drafting("2:01 -> 3:01"), x -> x.body(2, wrong, 1));
                refused("second " + wrong, drafting("2:01 -> 3:01"), x -> x.body(2, 1, wrong));
                refused("both " + wrong, drafting("2:01 -> 3:01"), x -> x.body(2, wrong, wrong));
            }
        });
        holds("3: the variables 0 .. 3 are taken, and may be the same", () -> {
            for (int v = 0; v < 4; v++) {
                for (int w = 0; w < 4; w++) {
                    due("variables " + v + ", " + w, drafting("->").get().body(2, v, w), 1);
                }
            }
        });
    }

    private static void head() {
        holds("4: answers how many it has then", () -> {
            MappingChase x = new MappingChase();
            x.open(0);
            due("one", x.head(2, 0, 1), 1);
            due("the same again is two", x.head(2, 0, 1), 2);
        });
        holds("4: NONE, refused, when there is no draft", () -> {
            refused("before one", MappingChase::new, x -> x.head(2, 0, 1));
            refused("behind a dependency", DraftEdgesTest::afterDependency, x -> x.head(2, 0, 1));
            refused("behind a query", DraftEdgesTest::afterQuery, x -> x.head(2, 0, 1));
        });
        holds("4: NONE, refused, when there is no draft of a generator", () -> {
            refused("an equation", drafting("2:01 = 01"), x -> x.head(2, 0, 1));
            refused("a query", drafting("2:01 ? 01"), x -> x.head(2, 0, 1));
        });
        holds("4: NONE, refused, when it has 2", () -> {
            refused("two", drafting(FULL_DRAFTS[0]), x -> x.head(2, 0, 1));
            refused("two and no body", drafting("-> 2:01 2:10"), x -> x.head(2, 0, 1));
        });
        holds("4: NONE, refused, when the relation is not 0 .. 5", () -> {
            for (int relation : Wrong.RELATIONS) {
                refused("head of " + relation, drafting("0:01 -> 3:01"), x -> x.head(relation, 0, 1));
            }
        });
        holds("4: the relations 0 .. 5 are taken", () -> {
            for (int relation = 0; relation < 6; relation++) {
                due("head of " + relation, drafting("->").get().head(relation, 0, 1), 1);
            }
        });
        holds("4: NONE, refused, when a variable is not 0 .. 3", () -> {
            for (int wrong : Wrong.VARIABLES) {
                refused("first " + wrong, drafting("0:01 -> 3:01"), x -> x.head(2, wrong, 1));
                refused("second " + wrong, drafting("0:01 -> 3:01"), x -> x.head(2, 1, wrong));
                refused("both " + wrong, drafting("0:01 -> 3:01"), x -> x.head(2, wrong, wrong));
            }
        });
        holds("4: the variables 0 .. 3 are taken, and may be the same", () -> {
            for (int v = 0; v < 4; v++) {
                for (int w = 0; w < 4; w++) {
                    due("variables " + v + ", " + w, drafting("->").get().head(2, v, w), 1);
                }
            }
        });
    }

    private static void pair() {
        holds("5: the pair of the draft is v and w from now on", () -> {
            for (int v = 0; v < 4; v++) {
                for (int w = 0; w < 4; w++) {
                    MappingChase x = Scenes.facts(Scenes.of("0:01 -> 2:01"), 0, 0, 1, 1, 2, 2, 3);
                    Scenes.draft(x, "2:01 2:12 2:23 ? 11");
                    due("pair " + v + ", " + w, x.pair(v, w), true);
                    x.close();
                    Scenes.chase(x);
                    due("pair " + v + ", " + w + " in place of another", x.answer(0), 16 * v + w);
                }
            }
            due("before a body", drafting("=").get().pair(3, 3), true);
        });
        holds("5: false, refused, when there is no draft", () -> {
            refused("before one", MappingChase::new, x -> Sentences.flag(x.pair(0, 1)), 0);
            refused("behind a dependency", DraftEdgesTest::afterDependency, x -> Sentences.flag(x.pair(0, 1)), 0);
            refused("behind a query", DraftEdgesTest::afterQuery, x -> Sentences.flag(x.pair(0, 1)), 0);
        });
        holds("5: false, refused, when there is no draft of an equation or a query", () -> {
            refused("a generator", drafting("0:01 -> 2:01"), x -> Sentences.flag(x.pair(0, 1)), 0);
            refused("an empty generator", drafting("->"), x -> Sentences.flag(x.pair(0, 1)), 0);
        });
        holds("5: false, refused, when a variable is not 0 .. 3", () -> {
            for (String draft : new String[] {"2:01 = 00", "2:01 ? 00", "2:01 =", "2:01 ?"}) {
                for (int wrong : Wrong.VARIABLES) {
                    refused("first " + wrong, drafting(draft), x -> Sentences.flag(x.pair(wrong, 1)), 0);
                    refused("second " + wrong, drafting(draft), x -> Sentences.flag(x.pair(1, wrong)), 0);
                    refused("both " + wrong, drafting(draft), x -> Sentences.flag(x.pair(wrong, wrong)), 0);
                }
            }
        });
    }

    private static void closeAnswers() {
        holds("6: the draft becomes a dependency, and the answer is its number", () -> {
            MappingChase x = new MappingChase();
            String[] rules = {
                "0:01 -> 2:01", "2:01 = 01", "2:00 -> 3:01 3:12", "0:01 1:12 0:23 -> 2:03", "2:01 3:12 = 02",
                "4:00 4:00 4:00 -> 5:11 5:11",
            };
            for (int number = 0; number < 6; number++) {
                due(rules[number], Scenes.close(x, rules[number]), number);
            }
        });
        holds("6: or the query, in place of the one that there is, and the answer is 0", () -> {
            MappingChase x = Scenes.facts(Scenes.copying(), 0, 1, 2);
            due("a query behind two dependencies", Scenes.close(x, "2:01 ? 01"), 0);
            Scenes.chase(x);
            due("it answers", x.answer(0), 18);
            due("another query", Scenes.close(x, "2:01 ? 11"), 0);
            due("it answers in its place", x.answer(0), 34);
            due("the old one answers no more", x.answers(), 1);
            due("an emptier query", Scenes.close(x, "5:01 ? 01"), 0);
            due("no answers", x.answers(), 0);
        });
        holds("6: there is no draft then", () -> {
            for (String rule : FULL_DRAFTS) {
                MappingChase x = drafting(rule).get();
                due(rule, x.close(), rule.contains("?") ? 0 : 1);
                refused("close", () -> closed(rule), MappingChase::close);
                refused("body", () -> closed(rule), y -> y.body(2, 0, 1));
                refused("head", () -> closed(rule), y -> y.head(2, 0, 1));
                refused("pair", () -> closed(rule), y -> Sentences.flag(y.pair(0, 1)), 0);
            }
        });
    }

    private static MappingChase closed(String rule) {
        MappingChase x = drafting(rule).get();
        x.close();
        return x;
    }

    private static MappingChase draftInState(int state, String rule) {
        return Scenes.draft(Scenes.inState(state), rule);
    }

    /** Every one of these calls of close is refused so, and the draft stays. */
    private static void closeRefuses(String words, int want, String... drafts) {
        holds("6: " + words, () -> {
            for (String draft : drafts) {
                refused(draft, drafting(draft), MappingChase::close, want);
            }
        });
    }

    /** Every one of these drafts closes: what is refused begins behind them. */
    private static void closeTakes(String words, String... drafts) {
        holds("6: " + words, () -> {
            for (String draft : drafts) {
                due(draft, drafting(draft).get().close(), draft.contains("?") ? 0 : 1);
            }
        });
    }

    private static void closeRefuses() {
        holds("6: NONE there is no draft", () -> {
            refused("before one", MappingChase::new, MappingChase::close);
            refused("behind a dependency", DraftEdgesTest::afterDependency, MappingChase::close);
            refused("behind a query", DraftEdgesTest::afterQuery, MappingChase::close);
        });
        holds("6: NONE it is no query and the state is not BUILDING", () -> {
            for (int state = 1; state < 5; state++) {
                int number = state;
                refused("a generator", () -> draftInState(number, "1:01 -> 2:01"), MappingChase::close);
                refused("an equation", () -> draftInState(number, "2:01 = 00"), MappingChase::close);
            }
        });
        holds("6: a query closes in every state", () -> {
            for (int state = 0; state < 5; state++) {
                MappingChase x = draftInState(state, "2:01 ? 00");
                due("state " + state, x.close(), 0);
                due("no draft then", x.close(), MappingChase.NONE);
                due("the state stays", x.state(), state);
            }
        });
        closeRefuses("EMPTY it has no body", MappingChase.EMPTY, "->", "-> 2:00", "-> 2:00 2:00", "=", "= 00", "?", "? 00");
        closeRefuses("EMPTY a generator's has no head", MappingChase.EMPTY, "0:01 ->", "2:01 3:12 4:23 ->");
        closeRefuses("EMPTY another one's no pair", MappingChase.EMPTY, "2:01 =", "2:01 ?", "2:01 3:12 4:23 =",
                "2:01 3:12 4:23 ?");
        closeTakes("a body of one atom and a head of one", "0:01 -> 2:01", "2:01 -> 3:01", "2:01 = 01", "2:01 ? 01");
        closeRefuses("MIXED the body has source and target relations", MappingChase.MIXED, "0:01 2:01 -> 3:01",
                "2:01 0:01 -> 3:01", "1:01 5:01 -> 3:01", "1:01 1:01 2:01 -> 3:01", "5:01 5:01 1:01 -> 3:01",
                "2:01 1:01 2:01 -> 3:01", "2:01 1:01 = 01", "1:01 2:01 ? 01", "2:01 2:01 0:01 = 01", "2:01 2:01 1:01 ? 01");
        closeRefuses("MIXED it is no generator's and has a source relation", MappingChase.MIXED, "0:01 = 01", "1:01 = 01",
                "0:01 1:01 = 01", "1:01 ? 01", "0:01 ? 01", "0:01 0:01 1:01 ? 01");
        closeTakes("a body of source relations, or of target relations", "0:01 1:01 -> 2:01", "1:01 0:01 1:11 -> 5:01",
                "2:01 5:01 -> 3:01", "3:01 4:01 5:01 -> 3:01", "2:01 5:01 = 01", "5:01 2:01 ? 01");
        closeRefuses("HEAD the head has a source relation", MappingChase.HEAD, "0:01 -> 0:01", "0:01 -> 1:01",
                "0:01 -> 2:01 0:01", "0:01 -> 1:01 2:01", "2:01 -> 5:01 1:01", "2:01 -> 0:01 1:01");
        closeRefuses("LOOSE a variable of the pair does not occur in the body", MappingChase.LOOSE, "2:01 = 02", "2:01 = 20",
                "2:01 = 22", "2:01 ? 03", "2:01 ? 30", "2:01 ? 33", "2:11 = 01", "2:12 3:12 4:12 ? 10", "2:23 3:33 4:22 ? 31");
        closeTakes("a pair that occurs in any of the atoms", "2:01 = 10", "2:00 = 00", "2:11 3:22 4:33 = 13",
                "2:11 3:22 4:30 ? 03", "2:33 ? 33");
        holds("6: MANY it is no query and there are 6 dependencies", () -> {
            refused("a generator", () -> Scenes.draft(withSix(), "1:01 -> 5:01"), MappingChase::close, MappingChase.MANY);
            refused("an equation", () -> Scenes.draft(withSix(), "2:01 = 00"), MappingChase::close, MappingChase.MANY);
        });
        holds("6: there are 5 dependencies, or it is a query", () -> {
            MappingChase x = withSix();
            due("a query beside six", Scenes.close(x, "2:01 ? 01"), 0);
            x.drop();
            due("a sixth", Scenes.close(x, "1:01 -> 5:01"), 5);
            due("a seventh", Scenes.close(x, "1:01 -> 5:01"), MappingChase.MANY);
        });
    }

    private static void first(String words, Supplier<MappingChase> scene, String draft, int want) {
        holds("6: refused with the first that is so, " + words, () ->
                refused(draft, () -> Scenes.draft(scene.get(), draft), MappingChase::close, want));
    }

    private static void closeRefusesWithTheFirst() {
        Supplier<MappingChase> chasing = () -> Scenes.inState(1);
        Supplier<MappingChase> chasingSix = () -> {
            MappingChase x = withSix();
            x.start();
            return x;
        };
        first("NONE and EMPTY", chasing, "->", MappingChase.NONE);
        first("NONE and EMPTY of an equation", chasing, "2:01 =", MappingChase.NONE);
        first("NONE and MIXED", chasing, "0:01 2:01 -> 2:01", MappingChase.NONE);
        first("NONE and HEAD", chasing, "0:01 -> 0:01", MappingChase.NONE);
        first("NONE and LOOSE", chasing, "2:01 = 02", MappingChase.NONE);
        first("NONE and MANY", chasingSix, "0:01 -> 2:01", MappingChase.NONE);
        first("EMPTY and MIXED", MappingChase::new, "0:01 2:01 ->", MappingChase.EMPTY);
        first("EMPTY and MIXED of a query", MappingChase::new, "0:01 ?", MappingChase.EMPTY);
        first("EMPTY and HEAD", MappingChase::new, "-> 0:01", MappingChase.EMPTY);
        first("EMPTY and LOOSE", MappingChase::new, "= 01", MappingChase.EMPTY);
        first("EMPTY and MANY", DraftEdgesTest::withSix, "0:01 ->", MappingChase.EMPTY);
        first("MIXED and HEAD", MappingChase::new, "0:01 2:01 -> 0:01", MappingChase.MIXED);
        first("MIXED and LOOSE", MappingChase::new, "0:01 = 02", MappingChase.MIXED);
        first("MIXED and LOOSE of a query", MappingChase::new, "1:01 2:01 ? 02", MappingChase.MIXED);
        first("MIXED and MANY", DraftEdgesTest::withSix, "1:01 2:01 -> 2:01", MappingChase.MIXED);
        first("HEAD and MANY", DraftEdgesTest::withSix, "1:01 -> 1:01", MappingChase.HEAD);
        first("LOOSE and MANY", DraftEdgesTest::withSix, "2:01 = 03", MappingChase.LOOSE);
        first("LOOSE of a query that is not BUILDING", chasing, "2:01 ? 03", MappingChase.LOOSE);
    }
}
