import java.util.ArrayList;
import java.util.HashSet;
import java.util.List;
import java.util.Set;
import java.util.TreeSet;

/**
 * The document's words once more, in lists and sets and without any care for speed: what the
 * program answers is held against it. A dish is a list of places here, its ingredients are copied.
 */
final class PlainModel {
    static final class Rule {
        final Set<Integer> needs = new TreeSet<>();
        final Set<Integer> spares = new TreeSet<>();

        boolean holds(Set<Integer> kinds) {
            return !needs.isEmpty() && kinds.containsAll(needs)
                && kinds.stream().noneMatch(spares::contains);
        }
    }

    record Step(int places, int parts, int way, int part, int behind) {
        int tell(int what) {
            return new int[] {places, parts, way, part, behind}[what];
        }
    }

    /** One search over a recipe, with what it tasted. */
    final class Search {
        final List<Integer> recipe;
        final Set<List<Integer>> tasted = new HashSet<>();
        final List<Step> steps = new ArrayList<>();
        List<Integer> list = new ArrayList<>();

        Search(List<Integer> recipe) {
            this.recipe = new ArrayList<>(recipe);
        }

        boolean look(List<Integer> dish) {
            tasted.add(dish);
            return spoil(kindsOf(recipe, dish));
        }

        Search byHalves() {
            List<Integer> dish = allPlaces(recipe);
            if (!look(dish)) {
                return this;
            }
            int n = 2;
            while (dish.size() > 1) {
                int m = dish.size();
                int found = -1;
                for (int k = 0; k < n && found < 0; k++) {
                    found = look(part(dish, k, n)) ? k : -1;
                }
                if (found >= 0) {
                    dish = part(dish, found, n);
                    steps.add(new Step(m, n, 1, found, bitsOf(dish)));
                    n = 2;
                    continue;
                }
                for (int k = 0; n > 2 && k < n && found < 0; k++) {
                    found = look(without(dish, part(dish, k, n))) ? k : -1;
                }
                if (found >= 0) {
                    dish = without(dish, part(dish, found, n));
                    steps.add(new Step(m, n, 2, found, bitsOf(dish)));
                    n = n - 1 < 2 ? 2 : n - 1;
                    continue;
                }
                if (n >= m) {
                    break;
                }
                steps.add(new Step(m, n, 3, -1, bitsOf(dish)));
                n = n * 2 > m ? m : n * 2;
            }
            list = dish;
            return this;
        }

        Search oneByOne() {
            List<Integer> dish = allPlaces(recipe);
            if (!look(dish)) {
                return this;
            }
            for (int place = recipe.size() - 1; place >= 0; place--) {
                List<Integer> others = without(dish, List.of(place));
                if (!others.isEmpty() && look(others)) {
                    dish = others;
                }
            }
            list = dish;
            return this;
        }
    }

    final List<Integer> recipe = new ArrayList<>();
    final List<Rule> rules = new ArrayList<>();
    Search kept = null;
    int keptTastings = 0;

    // ---- helpers

    static List<Integer> allPlaces(List<Integer> recipe) {
        List<Integer> all = new ArrayList<>();
        for (int place = 0; place < recipe.size(); place++) {
            all.add(place);
        }
        return all;
    }

    static List<Integer> part(List<Integer> dish, int k, int n) {
        int m = dish.size();
        return new ArrayList<>(dish.subList(k * m / n, (k + 1) * m / n));
    }

    static List<Integer> without(List<Integer> dish, List<Integer> places) {
        List<Integer> others = new ArrayList<>(dish);
        others.removeAll(places);
        return others;
    }

    static int bitsOf(Iterable<Integer> numbers) {
        int bits = 0;
        for (int number : numbers) {
            bits += 1 << number;
        }
        return bits;
    }

    static List<Integer> placesOf(int dish) {
        List<Integer> places = new ArrayList<>();
        for (int place = 0; place < 31; place++) {
            if ((dish & 1 << place) != 0) {
                places.add(place);
            }
        }
        return places;
    }

    static Set<Integer> kindsOf(List<Integer> recipe, List<Integer> dish) {
        Set<Integer> kinds = new TreeSet<>();
        for (int place : dish) {
            kinds.add(recipe.get(place));
        }
        return kinds;
    }

    boolean spoil(Set<Integer> kinds) {
        return rules.stream().anyMatch(rule -> rule.holds(kinds));
    }

    private boolean dishSpoils(int dish) {
        return spoil(kindsOf(recipe, placesOf(dish)));
    }

    private void mustBe(boolean so) {
        if (!so) {
            throw new IndexOutOfBoundsException();
        }
    }

    private void mustBeDish(int dish) {
        if (dish < 0 || dish >= 1 << recipe.size()) {
            throw new IllegalArgumentException();
        }
    }

    private void mustStand(boolean so) {
        if (!so) {
            throw new IllegalStateException();
        }
    }

    private static boolean change(Set<Integer> set, int kind, boolean on) {
        return on ? !set.add(kind) : set.remove(kind);
    }

    // ---- the calls

    int add(int kind) {
        mustBe(kind >= 0 && kind <= 15);
        mustStand(recipe.size() < 24);
        recipe.add(kind);
        return recipe.size();
    }

    int drop(int place) {
        mustBe(place >= 0 && place < recipe.size());
        return recipe.remove(place);
    }

    int kind(int place) {
        mustBe(place >= 0 && place < recipe.size());
        return recipe.get(place);
    }

    int rule() {
        mustStand(rules.size() < 6);
        rules.add(new Rule());
        return rules.size() - 1;
    }

    boolean setNeeds(int rule, int kind, boolean needs) {
        mustBe(rule >= 0 && rule < rules.size() && kind >= 0 && kind <= 15);
        mustStand(!needs || !rules.get(rule).spares.contains(kind));
        return change(rules.get(rule).needs, kind, needs);
    }

    boolean setSpares(int rule, int kind, boolean spares) {
        mustBe(rule >= 0 && rule < rules.size() && kind >= 0 && kind <= 15);
        mustStand(!spares || !rules.get(rule).needs.contains(kind));
        return change(rules.get(rule).spares, kind, spares);
    }

    int told(int rule, int what) {
        mustBe(rule >= 0 && rule < rules.size() && what >= 0 && what <= 4);
        Rule it = rules.get(rule);
        return switch (what) {
            case 0 -> bitsOf(it.needs);
            case 1 -> bitsOf(it.spares);
            case 2 -> it.needs.size();
            case 3 -> it.holds(new TreeSet<>(recipe)) ? 1 : 0;
            default -> kept != null && it.holds(kindsOf(kept.recipe, kept.list)) ? 1 : 0;
        };
    }

    boolean spoils(int dish) {
        mustBeDish(dish);
        return dishSpoils(dish);
    }

    int shrink() {
        kept = new Search(recipe).byHalves();
        keptTastings += kept.tasted.size();
        return kept.tasted.size();
    }

    int kept(int place) {
        mustBe(kept != null && place >= 0 && place < kept.list.size());
        return kept.list.get(place);
    }

    int step(int step, int what) {
        mustBe(kept != null && step >= 0 && step < kept.steps.size() && what >= 0 && what <= 4);
        return kept.steps.get(step).tell(what);
    }

    int count(int what) {
        mustBe(what >= 0 && what <= 6);
        return switch (what) {
            case 0 -> recipe.size();
            case 1 -> rules.size();
            case 2 -> (int) rules.stream().filter(rule -> rule.holds(new TreeSet<>(recipe))).count();
            case 3 -> kept == null ? 0 : kept.list.size();
            case 4 -> kept == null ? 0 : kept.steps.size();
            case 5 -> kept == null ? 0 : kept.tasted.size();
            default -> keptTastings;
        };
    }

    int would(int what) {
        mustBe(what >= 0 && what <= 4);
        Search search = what <= 2 ? new Search(recipe).byHalves() : new Search(recipe).oneByOne();
        return switch (what) {
            case 0, 3 -> bitsOf(search.list);
            case 2 -> search.steps.size();
            default -> search.tasted.size();
        };
    }

    /**
     * The first place of each kind is enough to try: others of it make a dish larger, not other.
     */
    int least() {
        List<Integer> firsts = new ArrayList<>(new TreeSet<>(recipe));
        int least = 0;
        for (int choice = 0; choice < 1 << firsts.size(); choice++) {
            int size = Integer.bitCount(choice);
            if (least == 0 || size < least) {
                Set<Integer> kinds = new TreeSet<>();
                placesOf(choice).forEach(at -> kinds.add(firsts.get(at)));
                least = spoil(kinds) ? size : least;
            }
        }
        return least;
    }

    boolean isTight(int dish) {
        mustBeDish(dish);
        return dishSpoils(dish)
            && placesOf(dish).stream().noneMatch(place -> dishSpoils(dish - (1 << place)));
    }

    int advise() {
        int best = -1;
        int fewest = 0;
        for (int place = 0; place < recipe.size(); place++) {
            List<Integer> others = new ArrayList<>(recipe);
            others.remove(place);
            int tastings = new Search(others).byHalves().tasted.size();
            if (best < 0 || tastings < fewest) {
                best = place;
                fewest = tastings;
            }
        }
        return best;
    }

    double mean() {
        double sum = 0;
        for (Rule rule : rules) {
            sum += rule.needs.size();
        }
        return rules.isEmpty() ? 0 : sum / rules.size();
    }

    long digest() {
        List<Long> numbers = new ArrayList<>();
        for (int what = 0; what <= 6; what++) {
            numbers.add((long) count(what));
        }
        recipe.forEach(kind -> numbers.add((long) kind));
        for (int rule = 0; rule < rules.size(); rule++) {
            for (int what = 0; what <= 4; what++) {
                numbers.add((long) told(rule, what));
            }
        }
        for (int place = 0; place < count(3); place++) {
            numbers.add((long) kept(place));
        }
        for (int step = 0; step < count(4); step++) {
            for (int what = 0; what <= 4; what++) {
                numbers.add((long) step(step, what));
            }
        }
        for (int what = 0; what <= 4; what++) {
            numbers.add((long) would(what));
        }
        numbers.add((long) least());
        long d = 1499;
        for (long number : numbers) {
            d = d * 31 + number;
        }
        return d;
    }
}
