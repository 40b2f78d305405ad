/** Makes objects to test, and holds longer answers of theirs against what is due. */
final class Make {
    static final int MIN = Integer.MIN_VALUE;
    static final int MAX = Integer.MAX_VALUE;

    private Make() {
    }

    static FaultShrinker recipeOf(int... kinds) {
        FaultShrinker x = new FaultShrinker();
        for (int kind : kinds) {
            x.add(kind);
        }
        return x;
    }

    /** The kinds 0, 1, 2 and on, each once; from the place 16 on they begin again. */
    static FaultShrinker rowOf(int places) {
        FaultShrinker x = new FaultShrinker();
        for (int place = 0; place < places; place++) {
            x.add(place % 16);
        }
        return x;
    }

    static int needing(FaultShrinker x, int... kinds) {
        int rule = x.rule();
        for (int kind : kinds) {
            x.setNeeds(rule, kind, true);
        }
        return rule;
    }

    static void sparing(FaultShrinker x, int rule, int... kinds) {
        for (int kind : kinds) {
            x.setSpares(rule, kind, true);
        }
    }

    /** The first kinds, each once, and a rule that needs all of them. */
    static FaultShrinker allNeeded(int places) {
        FaultShrinker x = rowOf(places);
        int rule = x.rule();
        for (int kind = 0; kind < places; kind++) {
            x.setNeeds(rule, kind, true);
        }
        return x;
    }

    static long folded(long... numbers) {
        long d = 1499;
        for (long number : numbers) {
            d = d * 31 + number;
        }
        return d;
    }

    static void checkSteps(FaultShrinker x, int[][] due) {
        Check.same("steps", x.count(4), due.length);
        for (int step = 0; step < due.length; step++) {
            for (int what = 0; what < 5; what++) {
                Check.same("step(" + step + ", " + what + ")", x.step(step, what), due[step][what]);
            }
        }
        Check.outOfBounds("step behind the last", () -> x.step(due.length, 0));
    }

    static void checkKept(FaultShrinker x, int... due) {
        Check.same("places of the kept list", x.count(3), due.length);
        for (int place = 0; place < due.length; place++) {
            Check.same("kept(" + place + ")", x.kept(place), due[place]);
        }
        Check.outOfBounds("kept behind the list", () -> x.kept(due.length));
        Check.outOfBounds("kept(-1)", () -> x.kept(-1));
    }

    /** Everything that the object tells of itself. */
    static String stateOf(FaultShrinker x) {
        StringBuilder text = new StringBuilder();
        for (int what = 0; what < 7; what++) {
            text.append(x.count(what)).append(' ');
        }
        for (int place = 0; place < x.count(0); place++) {
            text.append(x.kind(place)).append(' ');
        }
        for (int rule = 0; rule < x.count(1); rule++) {
            for (int what = 0; what < 5; what++) {
                text.append(x.told(rule, what)).append(' ');
            }
        }
        for (int place = 0; place < x.count(3); place++) {
            text.append(x.kept(place)).append(' ');
        }
        for (int step = 0; step < x.count(4); step++) {
            for (int what = 0; what < 5; what++) {
                text.append(x.step(step, what)).append(' ');
            }
        }
        for (int what = 0; what < 5; what++) {
            text.append(x.would(what)).append(' ');
        }
        text.append(x.least()).append(' ').append(x.advise()).append(' ');
        return text.append(x.mean()).append(' ').append(x.digest()).toString();
    }
}
