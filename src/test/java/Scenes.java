/** Short ways to bring a MappingChase where a test wants it. An atom is {relation, v, w}. */
final class Scenes {
    private Scenes() {
    }

    static int[] atom(int relation, int v, int w) {
        return new int[] {relation, v, w};
    }

    static int generator(MappingChase x, int[] body, int[]... head) {
        x.open(0);
        x.body(body[0], body[1], body[2]);
        for (int[] atom : head) {
            x.head(atom[0], atom[1], atom[2]);
        }
        return x.close();
    }

    static int equation(MappingChase x, int v, int w, int[]... body) {
        return withPair(x, 1, v, w, body);
    }

    static int query(MappingChase x, int v, int w, int[]... body) {
        return withPair(x, 2, v, w, body);
    }

    private static int withPair(MappingChase x, int kind, int v, int w, int[]... body) {
        x.open(kind);
        for (int[] atom : body) {
            x.body(atom[0], atom[1], atom[2]);
        }
        x.pair(v, w);
        return x.close();
    }

    /** Relation 0 is copied to relation 2 and relation 1 to relation 3. */
    static MappingChase copying() {
        MappingChase x = new MappingChase();
        generator(x, atom(0, 0, 1), atom(2, 0, 1));
        generator(x, atom(1, 0, 1), atom(3, 0, 1));
        return x;
    }

    static void facts(MappingChase x, int relation, int... values) {
        for (int i = 0; i + 1 < values.length; i += 2) {
            x.fact(relation, values[i], values[i + 1]);
        }
    }

    /** Starts the chase and runs it to its end. */
    static int chase(MappingChase x) {
        x.start();
        return x.run(Integer.MAX_VALUE);
    }

    /** The facts of a relation as "1,16 2,17". */
    static String show(MappingChase x, int relation) {
        StringBuilder text = new StringBuilder();
        for (int k = 0; k < x.size(relation); k++) {
            int code = x.at(relation, k);
            text.append(k == 0 ? "" : " ").append(code / 32).append(',').append(code % 32);
        }
        return text.toString();
    }

    /** In each of the states 0 to 4, an object with one source fact and one dependency or more. */
    static MappingChase inState(int state) {
        MappingChase x = new MappingChase();
        generator(x, atom(0, 0, 1), atom(2, 0, 1));
        facts(x, 0, 1, 2);
        if (state == 3) {
            equation(x, 0, 1, atom(2, 0, 1));
        }
        if (state == 4) {
            generator(x, atom(0, 0, 1), atom(3, 0, 2), atom(4, 2, 3));
            facts(x, 0, 2, 2, 3, 3, 4, 4, 5, 5);
        }
        if (state > 0) {
            x.start();
        }
        if (state > 1) {
            x.run(100);
        }
        return x;
    }
}
