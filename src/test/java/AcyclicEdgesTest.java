/** Promise 10, sentence by sentence: the positions, the edges of both kinds, and the ways back. */
public final class AcyclicEdgesTest {
    private static final Sentences SENTENCES = new Sentences();
    private static final String[] NAMES = {
        "0123", "0132", "0213", "0231", "0312", "0321", "1023", "1032", "1203", "1230", "1302", "1320",
        "2013", "2031", "2103", "2130", "2301", "2310", "3012", "3021", "3102", "3120", "3201", "3210",
    };

    public static void main(String[] args) {
        whichHaveEdges();
        whereEdgesGo();
        waysBack();
        whatIsLookedAt();
        SENTENCES.end();
    }

    private static void holds(String words, Runnable test) {
        SENTENCES.holds(words, test);
    }

    private static void acyclic(String... rules) {
        looks(true, rules);
    }

    private static void cyclic(String... rules) {
        looks(false, rules);
    }

    /** Which number a variable has, and in which order dependencies were made, is nothing to it. */
    private static void looks(boolean want, String... rules) {
        for (String names : NAMES) {
            MappingChase x = new MappingChase();
            MappingChase turned = new MappingChase();
            for (int i = 0; i < rules.length; i++) {
                Scenes.close(x, renamed(rules[i], names));
                Scenes.close(turned, renamed(rules[rules.length - 1 - i], names));
            }
            String name = String.join(", ", rules) + " with the variables " + names;
            SENTENCES.due(name, x.acyclic(), want);
            SENTENCES.due(name + ", the other way round", turned.acyclic(), want);
        }
    }

    /** The same rule with other names for its variables: all digits but those before a colon. */
    private static String renamed(String rule, String names) {
        StringBuilder text = new StringBuilder(rule);
        for (int i = 0; i < rule.length(); i++) {
            boolean isRelation = i + 1 < rule.length() && rule.charAt(i + 1) == ':';
            if (Character.isDigit(rule.charAt(i)) && !isRelation) {
                text.setCharAt(i, names.charAt(rule.charAt(i) - '0'));
            }
        }
        return text.toString();
    }

    private static void whichHaveEdges() {
        holds("10: no dependencies are acyclic", () -> acyclic());
        holds("10: for each generator with target relations in its body", () -> {
            acyclic("0:01 -> 2:12");
            acyclic("1:01 -> 2:12 2:23", "0:01 1:12 0:23 -> 2:31");
            cyclic("2:01 -> 2:12");
            cyclic("5:01 -> 5:12");
        });
        holds("10: an equation has no edges", () -> {
            acyclic("2:01 2:12 = 02");
            acyclic("2:01 -> 3:12", "3:01 2:20 = 12");
        });
        holds("10: a query has no edges", () -> {
            MappingChase x = Scenes.of("2:01 -> 3:12", "3:01 2:12 ? 01");
            SENTENCES.due("with a query", x.acyclic(), true);
        });
        holds("10: each variable x that occurs in the body and in the head", () -> {
            acyclic("2:01 -> 2:23");
            acyclic("2:01 -> 2:02");
            acyclic("2:01 2:12 -> 2:03");
            acyclic("2:01 -> 2:21");
            cyclic("2:01 -> 2:02 2:13");
        });
        holds("10: each position p where x stands in the body", () -> {
            cyclic("2:11 -> 3:12", "3:01 -> 2:21");
            cyclic("2:11 -> 3:12", "3:01 -> 2:12");
            cyclic("4:00 5:01 2:20 -> 2:03");
            cyclic("4:00 2:20 5:01 -> 2:03");
            cyclic("2:20 4:00 5:01 -> 2:03");
        });
    }

    private static void whereEdgesGo() {
        holds("10: an EDGE from p to every position where x stands in the head", () -> {
            String special = "2:01 -> 3:02";
            cyclic(special, "3:21 -> 2:11");
            cyclic(special, "3:21 -> 2:13");
            acyclic(special, "3:01 -> 2:01");
            cyclic(special, "3:01 -> 4:11 2:10");
            acyclic(special, "3:01 -> 4:11 2:01");
            cyclic(special, "3:01 -> 4:10 2:11");
        });
        holds("10: a SPECIAL edge from p to every position of the head where a free variable stands", () -> {
            cyclic("2:01 -> 2:20");
            acyclic("2:01 -> 2:02");
            cyclic("2:01 -> 3:02 2:30");
            cyclic("2:01 -> 3:02 2:20");
            cyclic("2:01 -> 3:02", "3:01 -> 2:10");
            acyclic("2:01 -> 3:02", "3:01 -> 2:01");
            cyclic("2:01 -> 3:20", "3:01 -> 2:01");
            acyclic("2:01 -> 3:20", "3:01 -> 2:10");
            acyclic("2:01 -> 3:10", "3:01 -> 2:10");
        });
        holds("10: POSITIONS are the two places of each target relation", () -> {
            for (int r = 2; r < 6; r++) {
                for (int s = 2; s < 6; s++) {
                    cyclic(r + ":01 -> " + s + ":20", s + ":01 -> " + r + ":01");
                    cyclic(r + ":01 -> " + s + ":12", s + ":01 -> " + r + ":01");
                    looks(r != s, r + ":01 -> " + s + ":12", s + ":01 -> " + r + ":00");
                }
            }
        });
    }

    private static void waysBack() {
        holds("10: one comes back by a way with no special edge", () -> {
            acyclic("2:01 -> 2:01");
            acyclic("2:01 -> 2:10");
            acyclic("2:01 -> 3:10", "3:01 -> 4:10", "4:01 -> 5:10", "5:01 -> 2:11");
        });
        holds("10: one never comes back by a way with a special edge", () -> {
            acyclic("2:01 -> 3:12", "3:01 -> 4:12", "4:01 -> 5:12");
            acyclic("2:01 -> 2:10", "2:01 -> 3:12", "3:01 -> 3:10");
        });
        holds("10: one comes back by one special edge alone", () -> {
            cyclic("2:01 -> 2:20");
            cyclic("5:01 -> 5:12");
        });
        holds("10: one comes back by two special edges", () -> cyclic("2:01 -> 3:12", "3:01 -> 2:12"));
        holds("10: one comes back along edges of both kinds, the longest way", () -> {
            cyclic("2:01 -> 2:12", "2:01 -> 3:10");
            cyclic("2:01 -> 3:20", "3:01 -> 4:01", "4:01 -> 5:01", "5:01 -> 2:01");
            acyclic("2:01 -> 3:20", "3:01 -> 4:01", "4:01 -> 5:01", "5:01 -> 2:10");
            String[] ring = {"2:01 3:20 -> 2:20 3:02", "3:01 4:20 -> 3:20 4:02", "4:01 5:20 -> 4:20 5:02"};
            acyclic(ring[0], ring[1], ring[2]);
            acyclic(ring[0], ring[1], ring[2], "5:01 -> 2:12");
            cyclic(ring[0], ring[1], ring[2], "5:01 -> 2:20");
        });
        holds("10: the special edge may stand anywhere on the way", () -> {
            String[] plain = {"2:01 -> 3:00", "3:01 -> 4:00", "4:01 -> 5:00", "5:01 -> 2:00"};
            String[] special = {"2:01 -> 3:20", "3:01 -> 4:20", "4:01 -> 5:20", "5:01 -> 2:20"};
            acyclic(plain);
            for (int i = 0; i < 4; i++) {
                String[] rules = plain.clone();
                rules[i] = special[i];
                cyclic(rules);
            }
            cyclic(special);
        });
        holds("10: a special edge to the ring, or from it, is not on the way back", () -> {
            acyclic("2:01 -> 3:00", "3:01 -> 2:00", "2:01 -> 4:20");
            acyclic("2:01 -> 3:00", "3:01 -> 2:00", "4:01 -> 2:20");
            acyclic("2:01 -> 3:00", "3:01 -> 2:00", "4:01 -> 2:20", "3:01 -> 5:02");
        });
    }

    private static void whatIsLookedAt() {
        holds("10: whether the dependencies are, not the draft", () -> {
            MappingChase x = Scenes.draft(Scenes.of("2:01 -> 3:12"), "3:01 -> 2:12");
            SENTENCES.due("with a draft", x.acyclic(), true);
            x.close();
            SENTENCES.due("when it is closed", x.acyclic(), false);
            SENTENCES.due("drop", x.drop(), 1);
            SENTENCES.due("when it is dropped", x.acyclic(), true);
        });
        holds("10: whether they are now, not whether they were", () -> {
            for (int relation = 2; relation < 6; relation++) {
                MappingChase x = Scenes.of("0:01 -> 2:01", relation + ":01 -> " + relation + ":20");
                SENTENCES.due("by the first place", x.acyclic(), false);
                x.drop();
                SENTENCES.due("when it is dropped", x.acyclic(), true);
                Scenes.close(x, relation + ":01 -> " + relation + ":12");
                SENTENCES.due("by the second place", x.acyclic(), false);
                x.drop();
                SENTENCES.due("when it is dropped", x.acyclic(), true);
            }
        });
        holds("10: all six dependencies count", () -> {
            String[] rules = {"0:01 -> 2:01", "2:01 = 01", "2:01 -> 3:01", "3:01 -> 4:01", "4:01 -> 5:12"};
            acyclic(rules);
            MappingChase x = Scenes.of(rules);
            SENTENCES.due("the sixth", Scenes.close(x, "5:01 -> 2:01"), 5);
            SENTENCES.due("with the sixth", x.acyclic(), false);
            x = Scenes.of("5:01 -> 2:01", rules[0], rules[1], rules[2], rules[3], rules[4]);
            SENTENCES.due("with the first", x.acyclic(), false);
        });
        holds("10: in every state, and nothing changes", () -> {
            for (int state = 0; state < 5; state++) {
                int number = state;
                SENTENCES.refused("state " + state, () -> Scenes.inState(number), x -> Sentences.flag(x.acyclic()), 1);
            }
            SENTENCES.refused("cyclic", () -> Scenes.of("2:01 -> 2:12"), x -> Sentences.flag(x.acyclic()), 0);
        });
    }
}
