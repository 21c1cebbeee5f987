/**
 * Ways to go on with an object that bring to light what it holds. What is seen is told as a text,
 * so that two objects can be held against one another.
 */
enum WayOn {
    LOOK {
        void go(MappingChase x, StringBuilder seen) {
        }
    },
    CHASE_ON {
        void go(MappingChase x, StringBuilder seen) {
            seen.append(x.step()).append(' ');
            look(x, seen);
            seen.append(x.run(100)).append(' ').append(x.fold());
        }
    },
    CHASE_AGAIN {
        void go(MappingChase x, StringBuilder seen) {
            x.reset();
            chase(x, seen);
        }
    },
    CLOSE {
        void go(MappingChase x, StringBuilder seen) {
            seen.append(x.close()).append(' ');
            look(x, seen);
            x.reset();
            chase(x, seen);
        }
    },
    CLOSE_LATER {
        void go(MappingChase x, StringBuilder seen) {
            x.reset();
            seen.append(x.drop()).append(' ').append(x.close()).append(' ');
            chase(x, seen);
        }
    },
    ADD_AND_CLOSE {
        void go(MappingChase x, StringBuilder seen) {
            x.reset();
            seen.append(x.drop()).append(' ').append(x.head(3, 0, 1)).append(' ').append(x.head(3, 1, 0));
            seen.append(' ').append(x.body(2, 0, 1)).append(' ').append(x.close()).append(' ');
            chase(x, seen);
        }
    },
    PAIR_AND_CLOSE {
        void go(MappingChase x, StringBuilder seen) {
            x.reset();
            seen.append(x.drop()).append(' ').append(x.pair(1, 0)).append(' ').append(x.body(3, 0, 1));
            seen.append(' ').append(x.close()).append(' ');
            chase(x, seen);
        }
    },
    DROP_ALL {
        void go(MappingChase x, StringBuilder seen) {
            x.reset();
            for (int i = 0; i < 7; i++) {
                seen.append(x.drop()).append(' ').append(x.acyclic()).append(' ');
            }
        }
    },
    FACTS {
        void go(MappingChase x, StringBuilder seen) {
            x.reset();
            seen.append(x.take(0, 1, 2)).append(' ').append(x.fact(0, 9, 8)).append(' ').append(x.fact(1, 9, 9));
            chase(x, seen);
        }
    };

    abstract void go(MappingChase x, StringBuilder seen);

    String go(MappingChase x) {
        StringBuilder seen = new StringBuilder();
        go(x, seen);
        look(x, seen);
        return seen.toString();
    }

    static void chase(MappingChase x, StringBuilder seen) {
        seen.append(x.start()).append(' ').append(x.run(100)).append(' ');
        look(x, seen);
    }

    static void look(MappingChase x, StringBuilder seen) {
        seen.append("state ").append(x.state()).append(" nulls ").append(x.nulls());
        seen.append(" acyclic ").append(x.acyclic());
        for (int relation = 0; relation < 6; relation++) {
            seen.append(" | ").append(Scenes.show(x, relation));
        }
        seen.append(" answers ").append(x.answers());
        for (int k = 0; k < x.answers(); k++) {
            seen.append(' ').append(x.answer(k));
        }
        seen.append('\n');
    }
}
