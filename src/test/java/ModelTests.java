/** Long rows of calls, drawn by a fixed rule: the program answers and throws as the plain model does. */
public final class ModelTests {
    private interface Answer {
        String of();
    }

    private long seed;
    private FaultShrinker x;
    private PlainModel model;

    private ModelTests(long seed) {
        this.seed = seed;
        x = new FaultShrinker();
        model = new PlainModel();
    }

    public static void main(String[] args) {
        for (int run = 0; run < 600; run++) {
            new ModelTests(run).mixedRun(120);
        }
        for (int run = 0; run < 300; run++) {
            new ModelTests(10_000 + run).hardRun();
        }
        for (int run = 0; run < 10; run++) {
            new ModelTests(20_000 + run).mixedRun(512);
        }
        Check.end("ModelTests");
    }

    private int draw(int bound) {
        seed = seed * 6364136223846793005L + 1442695040888963407L;
        return (int) ((seed >>> 33) % bound);
    }

    /** Mostly within the bounds, at times just outside them or far away. */
    private int near(int bound) {
        int way = draw(24);
        if (way == 0) {
            return -1;
        }
        if (way == 1) {
            return bound;
        }
        if (way == 2) {
            return draw(2) == 0 ? Integer.MIN_VALUE : Integer.MAX_VALUE;
        }
        return bound > 0 ? draw(bound) : 0;
    }

    private static String answerOf(Answer answer) {
        try {
            return answer.of();
        } catch (RuntimeException e) {
            return "throws." + e.getClass().getSimpleName();
        }
    }

    private static void both(String call, Answer program, Answer due) {
        Check.same(call, answerOf(program), answerOf(due));
    }

    private void mixedRun(int calls) {
        int places = draw(25);
        int kinds = 1 + draw(16);
        for (int at = 0; at < places; at++) {
            int kind = draw(kinds);
            both("add", () -> "" + x.add(kind), () -> "" + model.add(kind));
        }
        for (int at = 0; at < calls - places; at++) {
            oneCall(kinds);
        }
        both("digest", () -> "" + x.digest(), () -> "" + model.digest());
    }

    private void oneCall(int kinds) {
        switch (draw(22)) {
            case 0, 1 -> add(kinds);
            case 2 -> drop();
            case 3 -> kind();
            case 4 -> rule();
            case 5, 6, 7, 8 -> setNeeds(kinds);
            case 9, 10 -> setSpares(kinds);
            case 11 -> told();
            case 12 -> spoils();
            case 13, 14 -> shrink();
            case 15 -> kept();
            case 16 -> step();
            case 17 -> count();
            case 18 -> would();
            case 19 -> least();
            case 20 -> isTight();
            default -> rare();
        }
    }

    private void add(int kinds) {
        int kind = near(draw(4) == 0 ? 16 : kinds);
        both("add", () -> "" + x.add(kind), () -> "" + model.add(kind));
    }

    private void drop() {
        int place = near(model.recipe.size());
        both("drop", () -> "" + x.drop(place), () -> "" + model.drop(place));
    }

    private void kind() {
        int place = near(model.recipe.size());
        both("kind", () -> "" + x.kind(place), () -> "" + model.kind(place));
    }

    private void rule() {
        both("rule", () -> "" + x.rule(), () -> "" + model.rule());
    }

    private void setNeeds(int kinds) {
        int rule = near(model.rules.size());
        int kind = near(draw(4) == 0 ? 16 : kinds);
        boolean on = draw(4) != 0;
        both("setNeeds", () -> "" + x.setNeeds(rule, kind, on), () -> "" + model.setNeeds(rule, kind, on));
    }

    private void setSpares(int kinds) {
        int rule = near(model.rules.size());
        int kind = near(draw(4) == 0 ? 16 : kinds);
        boolean on = draw(3) != 0;
        both("setSpares", () -> "" + x.setSpares(rule, kind, on), () -> "" + model.setSpares(rule, kind, on));
    }

    private void told() {
        int rule = near(model.rules.size());
        int what = near(5);
        both("told", () -> "" + x.told(rule, what), () -> "" + model.told(rule, what));
    }

    private int dish() {
        return near(1 << model.recipe.size());
    }

    private void spoils() {
        int dish = dish();
        both("spoils", () -> "" + x.spoils(dish), () -> "" + model.spoils(dish));
    }

    private void shrink() {
        both("shrink", () -> "" + x.shrink(), () -> "" + model.shrink());
        // A list is tight for the parts of single places that the search ended with, so a good dish to try.
        int list = model.kept.list.isEmpty() ? 0 : PlainModel.bitsOf(model.kept.list);
        both("isTight", () -> "" + x.isTight(list), () -> "" + model.isTight(list));
    }

    private void kept() {
        int place = near(model.count(3));
        both("kept", () -> "" + x.kept(place), () -> "" + model.kept(place));
    }

    private void step() {
        int step = near(model.count(4));
        int what = near(5);
        both("step", () -> "" + x.step(step, what), () -> "" + model.step(step, what));
    }

    private void count() {
        int what = near(7);
        both("count", () -> "" + x.count(what), () -> "" + model.count(what));
    }

    private void would() {
        int what = near(5);
        both("would", () -> "" + x.would(what), () -> "" + model.would(what));
    }

    private void least() {
        both("least", () -> "" + x.least(), () -> "" + model.least());
    }

    private void isTight() {
        int dish = dish();
        both("isTight", () -> "" + x.isTight(dish), () -> "" + model.isTight(dish));
    }

    private void rare() {
        if (draw(2) == 0) {
            both("advise", () -> "" + x.advise(), () -> "" + model.advise());
        }
        both("mean", () -> "" + x.mean(), () -> "" + model.mean());
        both("digest", () -> "" + x.digest(), () -> "" + model.digest());
    }

    /** A long recipe and wide rules that all spoil it: the longest searches. */
    private void hardRun() {
        int places = 16 + draw(9);
        for (int at = 0; at < places; at++) {
            int kind = at < 16 ? (at * 5 + draw(2)) % 16 : draw(16);
            both("add", () -> "" + x.add(kind), () -> "" + model.add(kind));
        }
        int rules = 1 + draw(6);
        for (int at = 0; at < rules; at++) {
            rule();
            int bits = draw(1 << 16) | (draw(2) == 0 ? draw(1 << 16) : 0);
            int sparing = at > 0 ? draw(1 << 16) & draw(1 << 16) & ~bits : 0;
            for (int kind = 0; kind < 16; kind++) {
                putKind(at, kind, (bits >> kind & 1) != 0, (sparing >> kind & 1) != 0);
            }
        }
        shrink();
        for (int what = 0; what < 5; what++) {
            int it = what;
            both("would", () -> "" + x.would(it), () -> "" + model.would(it));
        }
        both("advise", () -> "" + x.advise(), () -> "" + model.advise());
        both("digest", () -> "" + x.digest(), () -> "" + model.digest());
    }

    private void putKind(int rule, int kind, boolean needs, boolean spares) {
        if (needs) {
            both("setNeeds", () -> "" + x.setNeeds(rule, kind, true), () -> "" + model.setNeeds(rule, kind, true));
        }
        if (spares) {
            both("setSpares", () -> "" + x.setSpares(rule, kind, true), () -> "" + model.setSpares(rule, kind, true));
        }
    }
}
