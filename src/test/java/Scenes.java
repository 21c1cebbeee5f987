/**
 * Short ways to bring a MappingChase where a test wants it. An atom is {relation, v, w}; or a whole
 * rule is a text: "0:01 -> 2:02 3:21" a generator, "2:01 2:02 = 12" an equation, "2:01 3:12 ? 02" a
 * query, where 3:12 is the atom of relation 3 with the variables 1 and 2. Any part may be left out.
 */
final class Scenes {
    private Scenes() {
    }

    /** A new object with these rules closed. */
    static MappingChase of(String... rules) {
        MappingChase x = new MappingChase();
        for (String rule : rules) {
            close(x, rule);
        }
        return x;
    }

    static int close(MappingChase x, String rule) {
        draft(x, rule);
        return x.close();
    }

    /** Opens a draft and gives it what the rule says; answers the object, for a scene in one line. */
    static MappingChase draft(MappingChase x, String rule) {
        int kind = rule.contains("->") ? 0 : rule.contains("=") ? 1 : 2;
        x.open(kind);
        boolean inBody = true;
        for (String part : rule.trim().split(" +")) {
            if (part.equals("->") || part.equals("=") || part.equals("?")) {
                inBody = false;
            } else if (inBody) {
                x.body(digit(part, 0), digit(part, 2), digit(part, 3));
            } else if (kind == 0) {
                x.head(digit(part, 0), digit(part, 2), digit(part, 3));
            } else {
                x.pair(digit(part, 0), digit(part, 1));
            }
        }
        return x;
    }

    private static int digit(String text, int i) {
        return text.charAt(i) - '0';
    }

    static int[] atom(int relation, int v, int w) {
        return new int[] {relation, v, w};
    }

    static int generator(MappingChase x, int[] body, int[]... head) {
        x.open(0);
        x.body(body[0], body[1], body[2]);
        for (int[] atom : head) {
            x.head(atom[0], atom[1], atom[2]);
        }
        return x.close();
    }

    static int equation(MappingChase x, int v, int w, int[]... body) {
        return withPair(x, 1, v, w, body);
    }

    static int query(MappingChase x, int v, int w, int[]... body) {
        return withPair(x, 2, v, w, body);
    }

    private static int withPair(MappingChase x, int kind, int v, int w, int[]... body) {
        x.open(kind);
        for (int[] atom : body) {
            x.body(atom[0], atom[1], atom[2]);
        }
        x.pair(v, w);
        return x.close();
    }

    /** Relation 0 is copied to relation 2 and relation 1 to relation 3. */
    static MappingChase copying() {
        MappingChase x = new MappingChase();
        generator(x, atom(0, 0, 1), atom(2, 0, 1));
        generator(x, atom(1, 0, 1), atom(3, 0, 1));
        return x;
    }

    /** Facts of a relation, two values each; answers the object, for a scene in one line. */
    static MappingChase facts(MappingChase x, int relation, int... values) {
        for (int i = 0; i + 1 < values.length; i += 2) {
            x.fact(relation, values[i], values[i + 1]);
        }
        return x;
    }

    /** Starts the chase and runs it to its end. */
    static int chase(MappingChase x) {
        x.start();
        return x.run(Integer.MAX_VALUE);
    }

    /** The facts of a relation as "1,16 2,17". */
    static String show(MappingChase x, int relation) {
        StringBuilder text = new StringBuilder();
        for (int k = 0; k < x.size(relation); k++) {
            int code = x.at(relation, k);
            text.append(k == 0 ? "" : " ").append(code / 32).append(',').append(code % 32);
        }
        return text.toString();
    }

    /** In each of the states 0 to 4, an object with one source fact and one dependency or more. */
    static MappingChase inState(int state) {
        MappingChase x = new MappingChase();
        generator(x, atom(0, 0, 1), atom(2, 0, 1));
        facts(x, 0, 1, 2);
        if (state == 3) {
            equation(x, 0, 1, atom(2, 0, 1));
        }
        if (state == 4) {
            generator(x, atom(0, 0, 1), atom(3, 0, 2), atom(4, 2, 3));
            facts(x, 0, 2, 2, 3, 3, 4, 4, 5, 5);
        }
        if (state > 0) {
            x.start();
        }
        if (state > 1) {
            x.run(100);
        }
        return x;
    }
}
