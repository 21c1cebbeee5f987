/** Promise 12 and the chase step under "Terms", sentence by sentence. */
public final class StepEdgesTest {
    private static final Sentences SENTENCES = new Sentences();

    public static void main(String[] args) {
        answers();
        takesDependency();
        takesMatch();
        satisfied();
        finishes();
        fails();
        replaces();
        makesNulls();
        isFullOfNulls();
        isFullOfFacts();
        SENTENCES.end();
    }

    private static void holds(String words, Runnable test) {
        SENTENCES.holds(words, test);
    }

    private static void due(String call, long got, long want) {
        SENTENCES.due(call, got, want);
    }

    private static void dueFacts(String call, MappingChase x, int relation, String want) {
        SENTENCES.dueFacts(call, x, relation, want);
    }

    /** Facts of relation 0, and then the chase begins. */
    private static MappingChase chasing(MappingChase x, int... values) {
        Scenes.facts(x, 0, values);
        x.start();
        return x;
    }

    private static void answers() {
        holds("12: answers 1 plus the number of its dependency when facts were made", () -> {
            MappingChase x = Scenes.of("0:01 -> 2:01", "2:01 -> 3:10", "3:01 -> 4:10", "4:01 -> 5:10", "5:01 -> 2:11",
                    "2:00 -> 5:00");
            chasing(x, 1, 2);
            for (int number = 0; number < 5; number++) {
                due("dependency " + number, x.step(), 1 + number);
                due("still chasing", x.state(), 1);
            }
            x = chasing(Scenes.of("1:01 -> 2:01", "1:01 -> 2:01", "1:01 -> 2:01", "1:01 -> 2:01", "1:01 -> 2:01",
                    "0:01 -> 2:01"), 1, 2);
            due("dependency 5", x.step(), 6);
        });
        holds("12: answers 1 plus the number of its dependency when values were replaced", () -> {
            for (int number = 0; number < 6; number++) {
                MappingChase x = new MappingChase();
                for (int i = 0; i < 6; i++) {
                    boolean generates = i == (number == 0 ? 1 : 0);
                    Scenes.close(x, i == number ? "2:01 = 01" : generates ? "0:01 -> 2:02" : "5:01 -> 5:10");
                }
                chasing(x, 1, 2);
                due("a fact", x.step(), number == 0 ? 2 : 1);
                due("dependency " + number, x.step(), 1 + number);
                dueFacts("replaced", x, 2, "1,1");
                due("still chasing", x.state(), 1);
            }
        });
        holds("12: 0 when the state is FINISHED by it", () -> {
            MappingChase x = Scenes.inState(1);
            x.step();
            due("step", x.step(), 0);
            due("state", x.state(), 2);
        });
        holds("12: -1 when it is FAILED", () -> {
            MappingChase x = chasing(Scenes.of("0:01 -> 2:01", "2:01 = 01"), 1, 2);
            x.step();
            due("step", x.step(), -1);
            due("state", x.state(), 3);
        });
        holds("12: -2 when it is FULL", () -> {
            MappingChase x = chasing(Scenes.of("0:01 -> 2:02"), 0, 0, 1, 1, 2, 2, 3, 3, 4, 4, 5, 5, 6, 6, 7, 7, 8, 8);
            x.run(8);
            due("step", x.step(), -2);
            due("state", x.state(), 4);
        });
        holds("12: NONE, refused, when the state is not CHASING", () -> {
            for (int state : new int[] {0, 2, 3, 4}) {
                SENTENCES.refused("state " + state, () -> Scenes.inState(state), MappingChase::step);
            }
        });
    }

    private static void takesDependency() {
        holds("12: takes the lowest dependency that has a match that is not satisfied", () -> {
            MappingChase x = chasing(Scenes.of("2:01 -> 3:01", "0:01 -> 2:01", "0:01 -> 4:01"), 1, 2, 3, 4);
            int[] want = {2, 1, 2, 1, 3, 3, 0};
            for (int step = 0; step < want.length; step++) {
                due("step " + step, x.step(), want[step]);
            }
        });
        holds("12: a lower dependency whose matches are all satisfied is passed over", () -> {
            MappingChase x = chasing(Scenes.of("2:01 -> 2:01", "0:01 -> 2:01", "2:01 2:01 = 00", "2:01 -> 3:02"), 1, 2);
            due("the second", x.step(), 2);
            due("the fourth", x.step(), 4);
            due("none", x.step(), 0);
        });
        holds("12: a draft and a query make nothing", () -> {
            MappingChase x = Scenes.draft(Scenes.of("2:01 ? 01"), "0:01 -> 2:01");
            due("step", chasing(x, 1, 2).step(), 0);
        });
        holds("12: a dependency that was dropped makes nothing", () -> {
            MappingChase x = Scenes.of("0:01 -> 2:01", "0:01 -> 3:01");
            x.drop();
            chasing(x, 1, 2);
            due("the first", x.step(), 1);
            due("none", x.step(), 0);
        });
    }

    /** The facts of relation 2 in the order in which the steps make them. */
    private static void made(String rule, String want, MappingChase x) {
        Scenes.close(x, rule);
        x.start();
        StringBuilder made = new StringBuilder();
        String before = "";
        for (int i = 0; i < 24 && x.step() > 0; i++) {
            String now = Scenes.show(x, 2);
            String fact = now;
            for (String old : before.split(" ")) {
                fact = (" " + fact + " ").replace(" " + old + " ", " ").trim();
            }
            made.append(made.length() == 0 ? "" : " ").append(fact);
            before = now;
        }
        SENTENCES.due(rule, made.toString(), want);
    }

    private static void takesMatch() {
        holds("12: the one comes first that has the lower value for the least variable", () -> {
            made("0:01 -> 2:01", "0,15 1,9 15,0", Scenes.facts(new MappingChase(), 0, 15, 0, 1, 9, 0, 15));
            made("0:10 -> 2:10", "15,0 1,9 0,15", Scenes.facts(new MappingChase(), 0, 15, 0, 1, 9, 0, 15));
            made("0:32 -> 2:32", "15,0 1,9 0,15", Scenes.facts(new MappingChase(), 0, 15, 0, 1, 9, 0, 15));
        });
        holds("12: for the least variable for which they differ", () -> {
            made("0:01 -> 2:01", "4,0 4,3 4,15", Scenes.facts(new MappingChase(), 0, 4, 15, 4, 3, 4, 0));
            made("0:13 0:32 -> 2:12", "1,4 1,5 2,4 2,5", Scenes.facts(new MappingChase(), 0, 2, 3, 1, 3, 3, 5, 3, 4));
            made("0:32 0:01 -> 2:02", "1,2 1,4 3,2 3,4", Scenes.facts(new MappingChase(), 0, 3, 4, 1, 2));
        });
        holds("12: the variables that the head has not count, too", () -> {
            MappingChase x = chasing(Scenes.of("0:01 -> 2:12"), 1, 9, 2, 3);
            x.step();
            dueFacts("of the first match", x, 2, "9,16");
        });
        holds("12: of an equation, too", () -> {
            MappingChase x = chasing(Scenes.of("0:01 -> 2:02 3:21", "2:01 3:12 = 12"), 1, 9, 2, 8);
            x.run(2);
            dueFacts("before", x, 2, "1,16 2,17");
            x.step();
            dueFacts("the first match", x, 2, "1,9 2,17");
        });
        holds("12: the constants come before the nulls", () -> {
            MappingChase x = Scenes.of("0:01 -> 2:20", "1:01 -> 2:01", "2:01 -> 3:01");
            Scenes.facts(x, 1, 15, 15);
            chasing(x, 1, 1);
            x.run(3);
            dueFacts("the first match", x, 3, "15,15");
            x.step();
            dueFacts("the second match", x, 3, "15,15 16,1");
        });
        holds("12: the first such match: one that is satisfied is passed over", () -> {
            MappingChase x = Scenes.of("1:01 -> 2:01", "0:01 -> 2:01");
            Scenes.facts(x, 1, 1, 1, 3, 3);
            chasing(x, 1, 1, 2, 2, 3, 3, 4, 4);
            x.run(2);
            due("step", x.step(), 2);
            dueFacts("the second match", x, 2, "1,1 2,2 3,3");
            due("step", x.step(), 2);
            dueFacts("the fourth match", x, 2, "1,1 2,2 3,3 4,4");
            due("step", x.step(), 0);
        });
        holds("12: a match is a value for each variable such that every atom is a fact", () -> {
            made("0:01 0:12 0:20 -> 2:02", "1,3 2,1 3,2", Scenes.facts(new MappingChase(), 0, 1, 2, 2, 3, 3, 1, 3, 4));
            made("0:01 1:10 -> 2:01", "1,2", Scenes.facts(Scenes.facts(new MappingChase(), 0, 1, 2, 3, 4), 1, 2, 1, 3, 4));
            made("0:01 0:01 0:01 -> 2:01", "1,2", Scenes.facts(new MappingChase(), 0, 1, 2));
            made("0:01 0:12 1:23 -> 2:03", "", Scenes.facts(new MappingChase(), 0, 1, 2, 2, 3));
        });
        holds("12: the variables of an atom may be the same", () -> {
            for (int v = 0; v < 4; v++) {
                made("0:" + v + v + " -> 2:" + v + v, "0,0 15,15", Scenes.facts(new MappingChase(), 0, 15, 15, 1, 2, 0, 0));
            }
        });
    }

    private static void satisfied() {
        holds("12: satisfied, when every atom of the head is a target fact", () -> {
            MappingChase x = Scenes.of("1:01 -> 2:01", "0:01 -> 2:01 3:10");
            Scenes.facts(x, 1, 1, 2);
            chasing(x, 1, 2);
            x.step();
            due("one of two is there", x.step(), 2);
            dueFacts("the other one", x, 3, "2,1");
            due("both are there", x.step(), 0);
        });
        holds("12: satisfied by values for the free variables, any that occur in target facts", () -> {
            MappingChase x = chasing(Scenes.of("0:01 -> 2:01", "0:01 -> 2:02", "0:01 -> 2:31"), 1, 2);
            due("by a constant", x.run(9), 1);
            x = chasing(Scenes.of("0:01 -> 2:02", "0:01 -> 2:03"), 1, 2);
            due("by a null", x.run(9), 1);
        });
        holds("12: a free variable may be less than the others, or greater", () -> {
            for (String rule : new String[] {"0:12 -> 2:01", "0:02 -> 2:10", "0:01 -> 2:20", "0:01 -> 2:30", "0:23 -> 2:12"}) {
                MappingChase x = chasing(Scenes.of(rule), 5, 6);
                due(rule, x.step(), 1);
                dueFacts(rule, x, 2, "16,5");
                due(rule, x.step(), 0);
                x = Scenes.facts(Scenes.of("1:01 -> 2:01", rule), 1, 7, 5);
                chasing(x, 5, 6);
                due(rule + " by a constant", x.run(9), 1);
                due("finished", x.state(), 2);
            }
        });
        holds("12: satisfied by the same value for each place of a free variable", () -> {
            MappingChase x = Scenes.of("0:01 -> 2:01 3:11", "1:01 -> 2:02 3:21");
            Scenes.facts(x, 1, 1, 2, 1, 3);
            chasing(x, 1, 2);
            due("one match is, one is not", x.run(9), 2);
            dueFacts("relation 3", x, 3, "2,2 16,3");
            x = chasing(Scenes.of("0:01 -> 2:01", "0:01 -> 2:22"), 1, 2);
            due("both places of an atom", x.run(9), 2);
            dueFacts("relation 2", x, 2, "1,2 16,16");
        });
        holds("12: satisfied by the same value for two free variables", () -> {
            MappingChase x = chasing(Scenes.of("0:01 -> 2:00", "0:01 -> 2:23", "0:01 -> 2:02 2:30"), 1, 2);
            due("one step", x.run(9), 1);
            dueFacts("relation 2", x, 2, "1,1");
        });
        holds("12: not satisfied, when no values occur in target facts", () -> {
            MappingChase x = chasing(Scenes.of("0:01 -> 2:23"), 1, 2);
            due("step", x.step(), 1);
            due("step", x.step(), 0);
        });
        holds("12: not satisfied by the facts of another relation", () -> {
            MappingChase x = chasing(Scenes.of("0:01 -> 2:01", "0:01 -> 3:02", "0:01 -> 4:21"), 1, 2);
            due("three steps", x.run(9), 3);
        });
        holds("12: an equation's match is satisfied when both have the same value", () -> {
            MappingChase x = chasing(Scenes.of("0:01 -> 2:01", "2:01 = 01"), 1, 1, 15, 15);
            due("two steps", x.run(9), 2);
            due("finished", x.state(), 2);
            x = chasing(Scenes.of("0:01 -> 2:01", "2:01 = 00", "2:01 = 11"), 1, 2);
            due("one variable twice", x.run(9), 1);
            due("finished", x.state(), 2);
        });
        holds("12: an equation's pair may be any of the variables", () -> {
            for (int v = 0; v < 4; v++) {
                for (int w = 0; w < 4; w++) {
                    String rule = "2:" + v + w + " = " + v + w;
                    MappingChase x = chasing(Scenes.of("0:01 -> 2:01", rule), 1, 1, 15, 15);
                    due(rule + " is satisfied", x.run(9), 2);
                    due("finished", x.state(), 2);
                    x = chasing(Scenes.of("0:01 -> 2:01", rule), 1, 2);
                    due(rule, x.run(9), 1);
                    due(rule + " fails, but for a variable twice", x.state(), v == w ? 2 : 3);
                }
            }
        });
    }

    private static void finishes() {
        holds("12: if there is none, the state is FINISHED", () -> {
            due("no dependencies", chasing(new MappingChase(), 1, 2).step(), 0);
            due("no facts", chasing(Scenes.of("0:01 -> 2:01", "2:01 = 01")).step(), 0);
            MappingChase x = Scenes.inState(1);
            x.step();
            due("all satisfied", x.step(), 0);
            due("state", x.state(), 2);
            dueFacts("facts", x, 2, "1,2");
        });
    }

    private static void fails() {
        holds("12: an equation whose values are two constants: FAILED", () -> {
            for (int[] pair : new int[][] {{0, 15}, {15, 0}, {14, 15}, {15, 14}, {0, 1}, {1, 0}}) {
                MappingChase x = chasing(Scenes.of("0:01 -> 2:01", "2:01 = 10"), pair);
                x.step();
                due("step", x.step(), -1);
                due("state", x.state(), 3);
                due("the fact stays", x.at(2, 0), 32 * pair[0] + pair[1]);
                due("one fact", x.size(2), 1);
            }
        });
        holds("12: FAILED by the first match, whatever the others are", () -> {
            MappingChase x = chasing(Scenes.of("0:01 -> 2:01 3:02", "2:01 3:02 = 12", "3:01 = 01"), 1, 2, 3, 4);
            x.run(2);
            due("a null first", x.step(), 2);
            due("a null again", x.step(), 2);
            due("two constants", x.step(), -1);
            dueFacts("what was replaced", x, 3, "1,2 3,4");
        });
        holds("12: an equal pair of constants before does not make it fail", () -> {
            MappingChase x = chasing(Scenes.of("0:01 -> 2:01", "2:01 = 01"), 1, 1, 2, 2, 3, 4);
            x.run(3);
            due("the third match", x.step(), -1);
        });
    }

    private static void replaces() {
        holds("12: a null and a constant: the null is replaced", () -> {
            for (String pair : new String[] {"01", "10"}) {
                MappingChase x = chasing(Scenes.of("0:01 -> 2:02", "2:01 = " + pair), 15, 15, 0, 0);
                x.run(2);
                dueFacts("before", x, 2, "0,16 15,17");
                due("step", x.step(), 2);
                dueFacts("the first", x, 2, "0,0 15,17");
                due("step", x.step(), 2);
                dueFacts("15 is a constant", x, 2, "0,0 15,15");
                due("step", x.step(), 0);
            }
        });
        holds("12: two nulls: the greater one is replaced", () -> {
            for (String pair : new String[] {"01", "10"}) {
                MappingChase x = chasing(Scenes.of("0:01 -> 2:23", "2:01 = " + pair), 1, 1);
                x.step();
                due("step", x.step(), 2);
                dueFacts("16 and 17", x, 2, "16,16");
                x = chasing(Scenes.of("0:01 -> 2:32", "2:01 = " + pair), 1, 1);
                x.step();
                due("step", x.step(), 2);
                dueFacts("17 and 16", x, 2, "16,16");
            }
            MappingChase x = chasing(Scenes.of("0:01 -> 2:02", "2:01 2:32 = 12"), 0, 0, 1, 1, 2, 2, 3, 3, 4, 4, 5, 5, 6, 6, 7, 7);
            x.run(8);
            x.run(6);
            dueFacts("one of eight is left, and 23", x, 2, "0,16 1,16 2,16 3,16 4,16 5,16 6,16 7,23");
            due("step", x.step(), 2);
            due("nulls", x.nulls(), 1);
        });
        holds("12: replaced in all target facts", () -> {
            MappingChase x = chasing(Scenes.of("0:01 -> 2:02 3:20", "2:01 -> 4:10 5:01", "5:01 -> 5:11", "3:01 = 01"), 1, 1);
            x.run(3);
            dueFacts("relation 5 before", x, 5, "1,16 16,16");
            due("step", x.step(), 4);
            for (int relation = 2; relation < 6; relation++) {
                dueFacts("relation " + relation, x, relation, "1,1");
            }
            due("nulls", x.nulls(), 0);
            dueFacts("the source facts", x, 0, "1,1");
        });
        holds("12: what was replaced has no match any more", () -> {
            MappingChase x = chasing(Scenes.of("0:01 -> 2:22 3:02", "3:01 = 01", "2:00 -> 4:00", "2:01 -> 5:01"), 1, 1);
            due("a fact", x.step(), 1);
            dueFacts("before", x, 2, "16,16");
            due("replaced", x.step(), 2);
            due("one fact by both places", x.step(), 3);
            dueFacts("relation 4", x, 4, "1,1");
            due("one fact by each place", x.step(), 4);
            dueFacts("relation 5", x, 5, "1,1");
            due("no more", x.step(), 0);
        });
        holds("12: facts that come out the same are one", () -> {
            MappingChase x = chasing(Scenes.of("0:01 -> 2:02 3:21", "2:01 2:02 = 12"), 1, 5, 1, 6, 1, 7);
            x.run(3);
            due("before", x.size(2), 3);
            due("step", x.step(), 2);
            due("then", x.size(2), 2);
            due("step", x.step(), 2);
            dueFacts("at last", x, 2, "1,16");
            dueFacts("at last", x, 3, "16,5 16,6 16,7");
        });
    }

    private static void makesNulls() {
        holds("12: its free variables, the least first, get the least nulls", () -> {
            MappingChase x = chasing(Scenes.of("0:11 -> 2:32 3:01"), 5, 5);
            x.step();
            dueFacts("variables 3 and 2", x, 2, "18,17");
            dueFacts("variables 0 and 1", x, 3, "16,5");
            x = chasing(Scenes.of("0:33 -> 2:20 3:13"), 5, 5);
            x.step();
            dueFacts("variables 2 and 0", x, 2, "18,16");
            dueFacts("variables 1 and 3", x, 3, "17,5");
        });
        holds("12: a different one each", () -> {
            MappingChase x = chasing(Scenes.of("0:00 -> 2:12 3:30"), 1, 1, 2, 2);
            x.run(2);
            dueFacts("relation 2", x, 2, "16,17 19,20");
            dueFacts("relation 3", x, 3, "18,1 21,2");
            due("nulls", x.nulls(), 6);
        });
        holds("12: the least nulls that occur in no target fact", () -> {
            MappingChase x = chasing(Scenes.of("2:01 3:01 = 01", "0:01 -> 2:02", "2:01 -> 3:01"), 1, 1, 2, 2);
            x.run(4);
            dueFacts("16 occurs no more, 17 does", x, 2, "1,1 2,17");
            gapIsFilled();
        });
        holds("12: a null that occurs in the second place, or in another relation, is not taken again", () -> {
            MappingChase x = chasing(Scenes.of("0:01 -> 5:02", "0:01 -> 2:20", "0:01 -> 3:22", "0:01 -> 4:20"), 1, 2);
            x.run(9);
            dueFacts("relation 5", x, 5, "1,16");
            dueFacts("relation 2", x, 2, "17,1");
            dueFacts("relation 3", x, 3, "18,18");
            dueFacts("relation 4", x, 4, "19,1");
        });
        holds("12: the NULLS are 16 .. 23", () -> {
            MappingChase x = chasing(Scenes.of("0:01 -> 2:02"), 0, 0, 1, 1, 2, 2, 3, 3, 4, 4, 5, 5, 14, 14, 15, 15);
            due("eight steps", x.run(9), 8);
            dueFacts("relation 2", x, 2, "0,16 1,17 2,18 3,19 4,20 5,21 14,22 15,23");
        });
        holds("12: the atoms of its head become target facts", () -> {
            MappingChase x = chasing(Scenes.of("0:01 -> 5:10 2:02"), 3, 4);
            x.step();
            dueFacts("the first atom", x, 5, "4,3");
            dueFacts("the second atom", x, 2, "3,16");
            due("no other", x.size(3) + x.size(4), 0);
        });
    }

    /** Of three nulls the second one falls away, and is the least that is free then. */
    private static void gapIsFilled() {
        MappingChase x = Scenes.of("2:01 3:00 = 01", "0:01 -> 2:02", "1:01 -> 3:00", "0:01 -> 4:02 4:23");
        Scenes.facts(x, 1, 2, 2);
        chasing(x, 1, 1, 2, 2, 3, 3);
        x.run(5);
        dueFacts("17 fell away", x, 2, "1,16 2,2 3,18");
        due("step", x.step(), 4);
        dueFacts("17 and then 19", x, 4, "1,17 17,19");
    }

    /** So many nulls are there when a generator with so many free variables wants its own. */
    private static MappingChase wantingNulls(int there, int wanted) {
        String[] rules = {"1:00 -> 3:01", "1:00 -> 3:12", "1:00 -> 3:12 4:03"};
        MappingChase x = Scenes.of("0:01 -> 2:02", rules[wanted - 1]);
        Scenes.facts(x, 1, 9, 9);
        for (int i = 0; i < there; i++) {
            x.fact(0, i, i);
        }
        x.start();
        due("so many steps", x.run(there), there);
        return x;
    }

    private static void isFullOfNulls() {
        holds("12: when there are just so many nulls, it is done", () -> {
            for (int wanted = 1; wanted <= 3; wanted++) {
                MappingChase x = wantingNulls(8 - wanted, wanted);
                due("wanted " + wanted, x.step(), 2);
                due("nulls", x.nulls(), 8);
                due("state", x.state(), 1);
                due("then", x.step(), 0);
            }
        });
        holds("12: when there are not so many nulls, nothing of that is done, and the state is FULL", () -> {
            for (int wanted = 1; wanted <= 3; wanted++) {
                for (int there = 9 - wanted; there <= 8; there++) {
                    MappingChase x = wantingNulls(there, wanted);
                    due("wanted " + wanted + " beside " + there, x.step(), -2);
                    due("nulls", x.nulls(), there);
                    due("facts", 100 * x.size(2) + 10 * x.size(3) + x.size(4), 100 * there);
                    due("state", x.state(), 4);
                }
            }
        });
        holds("12: FULL, although a higher dependency could do its step", () -> {
            MappingChase x = chasing(Scenes.of("0:01 -> 2:02", "2:01 2:32 = 12"), 0, 0, 1, 1, 2, 2, 3, 3, 4, 4, 5, 5, 6, 6,
                    7, 7, 8, 8);
            due("eight steps", x.run(99), 8);
            due("full", x.state(), 4);
        });
        holds("12: not FULL, when a lower dependency makes nulls equal before", () -> {
            MappingChase x = chasing(Scenes.of("2:01 2:32 = 12", "0:01 -> 2:02"), 0, 0, 1, 1, 2, 2, 3, 3, 4, 4, 5, 5, 6, 6,
                    7, 7, 8, 8);
            due("nine facts, eight times equal", x.run(99), 17);
            due("finished", x.state(), 2);
            due("nulls", x.nulls(), 1);
        });
        holds("12: no nulls are wanted where there are no free variables", () -> {
            MappingChase x = chasing(Scenes.of("0:01 -> 2:02", "2:01 -> 3:10"), 0, 0, 1, 1, 2, 2, 3, 3, 4, 4, 5, 5, 6, 6, 7, 7);
            due("sixteen steps with eight nulls", x.run(99), 16);
            due("finished", x.state(), 2);
        });
    }

    /** So many target facts when the rule's turn comes, with the one source fact of relation 1. */
    private static MappingChase beside(int facts, String rule) {
        MappingChase x = Scenes.of("0:01 -> 2:01 3:01", facts % 2 == 0 ? "1:00 -> 4:00 4:01" : "1:00 -> 4:00", rule);
        int twice = (facts - 1) / 2;
        for (int i = 0; i < twice; i++) {
            x.fact(0, i, i + 1);
        }
        x.fact(1, 15, 15);
        x.start();
        x.run(twice + 1);
        due("facts", x.size(2) + x.size(3) + x.size(4) + x.size(5), facts);
        due("chasing", x.state(), 1);
        return x;
    }

    private static void makes(int facts, String rule, int more) {
        MappingChase x = beside(facts, rule);
        due(rule + " beside " + facts, x.step(), 3);
        due("facts then", x.size(2) + x.size(3) + x.size(4) + x.size(5), facts + more);
        due("state", x.state(), 1);
    }

    private static void isFull(int facts, String rule) {
        MappingChase x = beside(facts, rule);
        String before = Scenes.show(x, 4);
        due(rule + " beside " + facts, x.step(), -2);
        due("nothing is done", x.size(2) + x.size(3) + x.size(4) + x.size(5), facts);
        dueFacts("nothing is done", x, 4, before);
        due("state", x.state(), 4);
    }

    private static void isFullOfFacts() {
        holds("12: there would be 24 target facts: it is done", () -> {
            makes(23, "1:00 -> 5:00", 1);
            makes(22, "1:00 -> 5:00 5:01", 2);
            makes(22, "1:00 -> 5:12 5:21", 2);
        });
        holds("12: there would be more than 24 target facts: nothing of that is done, and the state is FULL", () -> {
            isFull(24, "1:00 -> 5:00");
            isFull(23, "1:00 -> 5:00 5:01");
            isFull(24, "1:00 -> 5:00 5:01");
            isFull(23, "1:00 -> 5:12 5:21");
        });
        holds("12: what is a target fact already is no more", () -> {
            makes(23, "1:00 -> 4:00 5:00", 1);
            makes(23, "1:00 -> 5:00 4:00", 1);
            isFull(24, "1:00 -> 4:00 5:00");
        });
        holds("12: two atoms that are the same fact are one more", () -> {
            makes(23, "1:00 -> 5:00 5:00", 1);
            makes(23, "1:01 -> 5:01 5:10", 1);
            isFull(24, "1:00 -> 5:00 5:00");
        });
        holds("12: 24 target facts and all satisfied: FINISHED", () -> {
            MappingChase x = beside(24, "1:00 -> 4:00");
            due("step", x.step(), 0);
            due("state", x.state(), 2);
        });
        holds("12: with 24 target facts values are still replaced", () -> {
            MappingChase x = Scenes.of("0:01 -> 2:01 3:01", "1:00 -> 4:00", "1:00 -> 5:01", "5:01 = 01");
            for (int i = 0; i < 11; i++) {
                x.fact(0, i, i + 1);
            }
            x.fact(1, 15, 15);
            x.start();
            x.run(13);
            due("facts", x.size(2) + x.size(3) + x.size(4) + x.size(5), 24);
            due("step", x.step(), 4);
            dueFacts("replaced", x, 5, "15,15");
            due("step", x.step(), 0);
        });
        holds("12: source facts are no target facts", () -> {
            MappingChase x = new MappingChase();
            Scenes.close(x, "0:01 -> 2:01 3:01");
            for (int i = 0; i < 12; i++) {
                x.fact(0, i, i);
            }
            x.start();
            due("24 beside 12 source facts", x.run(99), 12);
            due("finished", x.state(), 2);
            x = chasing(Scenes.of("0:01 -> 2:01 3:01", "0:01 -> 4:01 5:01", "0:01 -> 2:10"), 0, 1, 2, 3, 4, 5, 6, 7, 8, 9, 10, 11);
            due("24 beside 6 source facts", x.run(12), 12);
            due("the 25th", x.step(), -2);
        });
    }
}
