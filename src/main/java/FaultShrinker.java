/**
 * A fault finder of recipes: rules tell which dishes of a recipe spoil, and searches shrink the
 * recipe to a short list that spoils still. A dish is an int, bit p standing for the place p.
 */
public final class FaultShrinker {
    private static final int MOST_PLACES = 24;
    private static final int KINDS = 16;
    private static final int MOST_RULES = 6;

    private static final int TOLD_FACTS = 5;
    private static final int COUNT_FACTS = 7;
    private static final int WOULD_FACTS = 5;
    private static final int STEP_FACTS = 5;

    private static final int DIGEST_START = 1499;
    private static final int DIGEST_FACTOR = 31;

    private final Recipe recipe;
    private final RuleBook rules;
    private final Taster taster;
    /** No flag tells whether one was kept: ahead of the first it has no list, steps or tastings. */
    private final Search keptSearch;
    private final Search trialSearch;
    /** Kept apart, as the recipe may change behind the search. */
    private int keptListKinds;
    private int keptTastings;

    public FaultShrinker() {
        recipe = new Recipe();
        rules = new RuleBook();
        taster = new Taster(recipe, rules);
        keptSearch = new Search();
        trialSearch = new Search();
    }

    // ---- the recipe

    public int add(int kind) throws IndexOutOfBoundsException, IllegalStateException {
        if (!isKind(kind)) {
            throw new IndexOutOfBoundsException("no such kind");
        }
        if (recipe.isFull()) {
            throw new IllegalStateException("the recipe is full");
        }
        recipe.append(kind);
        return recipe.size();
    }

    public int drop(int place) throws IndexOutOfBoundsException {
        if (!recipe.hasPlace(place)) {
            throw new IndexOutOfBoundsException("no such place");
        }
        int kind = recipe.kindAt(place);
        recipe.takeOut(place);
        return kind;
    }

    public int kind(int place) throws IndexOutOfBoundsException {
        if (!recipe.hasPlace(place)) {
            throw new IndexOutOfBoundsException("no such place");
        }
        return recipe.kindAt(place);
    }

    // ---- rules

    public int rule() throws IllegalStateException {
        if (rules.isFull()) {
            throw new IllegalStateException("all rules are told");
        }
        rules.append();
        return rules.size() - 1;
    }

    public boolean setNeeds(int rule, int kind, boolean needs) throws IndexOutOfBoundsException, IllegalStateException {
        if (!rules.hasRule(rule) || !isKind(kind)) {
            throw new IndexOutOfBoundsException("no such rule or kind");
        }
        if (needs && hasBit(rules.sparedBy(rule), kind)) {
            throw new IllegalStateException("this kind spares the rule");
        }
        boolean before = hasBit(rules.neededBy(rule), kind);
        rules.putNeeded(rule, withBit(rules.neededBy(rule), kind, needs));
        return before;
    }

    public boolean setSpares(int rule, int kind, boolean spares) throws IndexOutOfBoundsException, IllegalStateException {
        if (!rules.hasRule(rule) || !isKind(kind)) {
            throw new IndexOutOfBoundsException("no such rule or kind");
        }
        if (spares && hasBit(rules.neededBy(rule), kind)) {
            throw new IllegalStateException("the rule needs this kind");
        }
        boolean before = hasBit(rules.sparedBy(rule), kind);
        rules.putSpared(rule, withBit(rules.sparedBy(rule), kind, spares));
        return before;
    }

    public int told(int rule, int what) throws IndexOutOfBoundsException {
        if (!rules.hasRule(rule) || what < 0 || what >= TOLD_FACTS) {
            throw new IndexOutOfBoundsException("no such rule, or nothing to tell");
        }
        return ruleFact(rule, what);
    }

    public boolean spoils(int dish) throws IllegalArgumentException {
        if (!recipe.hasDish(dish)) {
            throw new IllegalArgumentException("no such dish");
        }
        return isSpoiled(dish);
    }

    // ---- searches

    public int shrink() {
        keptSearch.goByHalves(taster, recipe.wholeDish());
        keptListKinds = recipe.kindsOf(keptSearch.list());
        keptTastings += keptSearch.tastings();
        return keptSearch.tastings();
    }

    public int kept(int place) throws IndexOutOfBoundsException {
        if (place < 0 || place >= keptSearch.listSize()) {
            throw new IndexOutOfBoundsException("no such place in the kept list");
        }
        return keptSearch.listPlace(place);
    }

    public int step(int step, int what) throws IndexOutOfBoundsException {
        if (step < 0 || step >= keptSearch.steps() || what < 0 || what >= STEP_FACTS) {
            throw new IndexOutOfBoundsException("no such step, or nothing to tell");
        }
        return keptSearch.stepFact(step, what);
    }

    public int count(int what) throws IndexOutOfBoundsException {
        if (what < 0 || what >= COUNT_FACTS) {
            throw new IndexOutOfBoundsException("nothing to count");
        }
        return countFact(what);
    }

    // ---- what would be

    public int would(int what) throws IndexOutOfBoundsException {
        if (what < 0 || what >= WOULD_FACTS) {
            throw new IndexOutOfBoundsException("nothing to tell");
        }
        if (what <= 2) {
            trialSearch.goByHalves(taster, recipe.wholeDish());
        } else {
            trialSearch.goOneByOne(taster, recipe.wholeDish());
        }
        switch (what) {
            case 0:
            case 3:
                return trialSearch.list();
            case 2:
                return trialSearch.steps();
            default:
                return trialSearch.tastings();
        }
    }

    public int least() {
        return rules.leastNeeded(recipe.kindsOf(recipe.wholeDish()));
    }

    public boolean isTight(int dish) throws IllegalArgumentException {
        if (!recipe.hasDish(dish)) {
            throw new IllegalArgumentException("no such dish");
        }
        if (!isSpoiled(dish)) {
            return false;
        }
        for (int place = 0; place < MOST_PLACES; place++) {
            if (hasBit(dish, place) && isSpoiled(withBit(dish, place, false))) {
                return false;
            }
        }
        return true;
    }

    public int advise() {
        int best = -1;
        int fewest = 0;
        for (int place = 0; place < recipe.size(); place++) {
            // A search counts its parts in its dish alone: left out of the dish is left out of the recipe.
            trialSearch.goByHalves(taster, withBit(recipe.wholeDish(), place, false));
            if (best < 0 || trialSearch.tastings() < fewest) {
                fewest = trialSearch.tastings();
                best = place;
            }
        }
        return best;
    }

    public double mean() {
        int all = rules.size();
        if (all == 0) {
            return 0.0;
        }
        int needed = 0;
        for (int rule = 0; rule < all; rule++) {
            needed += Integer.bitCount(rules.neededBy(rule));
        }
        return (double) needed / all;
    }

    public long digest() {
        long d = digestState(DIGEST_START);
        d = digestKept(d);
        trialSearch.goByHalves(taster, recipe.wholeDish());
        d = mixed(d, trialSearch.list());
        d = mixed(d, trialSearch.tastings());
        d = mixed(d, trialSearch.steps());
        trialSearch.goOneByOne(taster, recipe.wholeDish());
        d = mixed(d, trialSearch.list());
        d = mixed(d, trialSearch.tastings());
        return mixed(d, rules.leastNeeded(recipe.kindsOf(recipe.wholeDish())));
    }

    // ---- behind the face

    private long digestState(long start) {
        long d = start;
        for (int what = 0; what < COUNT_FACTS; what++) {
            d = mixed(d, countFact(what));
        }
        for (int place = 0; place < recipe.size(); place++) {
            d = mixed(d, recipe.kindAt(place));
        }
        for (int rule = 0; rule < rules.size(); rule++) {
            for (int what = 0; what < TOLD_FACTS; what++) {
                d = mixed(d, ruleFact(rule, what));
            }
        }
        return d;
    }

    private long digestKept(long start) {
        long d = start;
        for (int place = 0; place < keptSearch.listSize(); place++) {
            d = mixed(d, keptSearch.listPlace(place));
        }
        for (int step = 0; step < keptSearch.steps(); step++) {
            for (int what = 0; what < STEP_FACTS; what++) {
                d = mixed(d, keptSearch.stepFact(step, what));
            }
        }
        return d;
    }

    private int ruleFact(int rule, int what) {
        switch (what) {
            case 0:
                return rules.neededBy(rule);
            case 1:
                return rules.sparedBy(rule);
            case 2:
                return Integer.bitCount(rules.neededBy(rule));
            case 3:
                return rules.holds(rule, recipe.kindsOf(recipe.wholeDish())) ? 1 : 0;
            default:
                return rules.holds(rule, keptListKinds) ? 1 : 0;
        }
    }

    private int countFact(int what) {
        switch (what) {
            case 0:
                return recipe.size();
            case 1:
                return rules.size();
            case 2:
                return rules.holding(recipe.kindsOf(recipe.wholeDish()));
            case 3:
                return keptSearch.listSize();
            case 4:
                return keptSearch.steps();
            case 5:
                return keptSearch.tastings();
            default:
                return keptTastings;
        }
    }

    private boolean isSpoiled(int dish) {
        return rules.holding(recipe.kindsOf(dish)) > 0;
    }

    private static boolean isKind(int kind) {
        return kind >= 0 && kind < KINDS;
    }

    private static boolean hasBit(int bits, int at) {
        return ((bits >> at) & 1) != 0;
    }

    private static int withBit(int bits, int at, boolean on) {
        return on ? bits | (1 << at) : bits & ~(1 << at);
    }

    private static long mixed(long d, long x) {
        return d * DIGEST_FACTOR + x;
    }

    /** A row of ingredients. */
    private static final class Recipe {
        private final int[] kinds = new int[MOST_PLACES];
        private int size;

        int size() {
            return size;
        }

        boolean isFull() {
            return size >= kinds.length;
        }

        boolean hasPlace(int place) {
            return place >= 0 && place < size;
        }

        boolean hasDish(int dish) {
            return dish >= 0 && (dish >> size) == 0;
        }

        int wholeDish() {
            return (1 << size) - 1;
        }

        int kindAt(int place) {
            return hasPlace(place) ? kinds[place] : -1;
        }

        void append(int kind) {
            if (!isFull()) {
                kinds[size] = kind;
                size++;
            }
        }

        void takeOut(int place) {
            if (!hasPlace(place)) {
                return;
            }
            for (int at = place; at + 1 < size; at++) {
                kinds[at] = kinds[at + 1];
            }
            size--;
        }

        /** The kinds in a dish, as bits. */
        int kindsOf(int dish) {
            int bits = 0;
            for (int place = 0; place < size; place++) {
                if (((dish >> place) & 1) != 0) {
                    bits |= 1 << kinds[place];
                }
            }
            return bits;
        }
    }

    /** The rules that were told; sets of kinds are bits. */
    private static final class RuleBook {
        private final int[] needed = new int[MOST_RULES];
        private final int[] spared = new int[MOST_RULES];
        private int size;

        int size() {
            return size;
        }

        boolean isFull() {
            return size >= MOST_RULES;
        }

        boolean hasRule(int rule) {
            return rule >= 0 && rule < size;
        }

        void append() {
            if (!isFull()) {
                size++;
            }
        }

        int neededBy(int rule) {
            return hasRule(rule) ? needed[rule] : 0;
        }

        int sparedBy(int rule) {
            return hasRule(rule) ? spared[rule] : 0;
        }

        void putNeeded(int rule, int kinds) {
            if (hasRule(rule)) {
                needed[rule] = kinds;
            }
        }

        void putSpared(int rule, int kinds) {
            if (hasRule(rule)) {
                spared[rule] = kinds;
            }
        }

        boolean holds(int rule, int kinds) {
            return rule >= 0 && rule < size && needed[rule] != 0
                && (kinds & needed[rule]) == needed[rule] && (kinds & spared[rule]) == 0;
        }

        /** How many rules hold for a dish of these kinds. */
        int holding(int kinds) {
            int holding = 0;
            for (int rule = 0; rule < size; rule++) {
                if (holds(rule, kinds)) {
                    holding++;
                }
            }
            return holding;
        }

        /**
         * The places of the least dish that spoils, of these kinds; 0 if none does. What a rule
         * needs never spares it, so that one place of each kind that it needs is enough for it.
         */
        int leastNeeded(int kinds) {
            int least = 0;
            for (int rule = 0; rule < size; rule++) {
                int needs = Integer.bitCount(needed[rule]);
                boolean canHold = needs > 0 && (kinds & needed[rule]) == needed[rule];
                if (canHold && (least == 0 || needs < least)) {
                    least = needs;
                }
            }
            return least;
        }
    }

    /** Looks at dishes, and knows those that were tasted in the search that is going on. */
    private static final class Taster {
        // A search tastes below 6 dishes a place for each size of its dish, below 1,800 in all.
        private static final int SLOT_BITS = 12;
        private static final int SLOTS = 1 << SLOT_BITS;
        private static final int SCATTER = 0x9E3779B1;

        private final Recipe recipe;
        private final RuleBook rules;
        /** The search's number above the bits of the dish: what an older search left counts as free. */
        private final long[] known = new long[SLOTS];
        private long search;
        private int tastings;

        Taster(Recipe recipe, RuleBook rules) {
            this.recipe = recipe;
            this.rules = rules;
        }

        void begin() {
            search++;
            tastings = 0;
        }

        int tastings() {
            return tastings;
        }

        /** Whether a dish spoils; tastes it, if it is not known. */
        boolean looksSpoiled(int dish) {
            if (learn(dish)) {
                tastings++;
            }
            return rules.holding(recipe.kindsOf(dish)) > 0;
        }

        /** Remembers a dish; returns whether it was not known. */
        private boolean learn(int dish) {
            long entry = (search << MOST_PLACES) | dish;
            int home = (dish * SCATTER) >>> (32 - SLOT_BITS);
            for (int probe = 0; probe < SLOTS; probe++) {
                int slot = (home + probe) & (SLOTS - 1);
                if (known[slot] == entry) {
                    return false;
                }
                if ((known[slot] >> MOST_PLACES) != search) {
                    known[slot] = entry;
                    return true;
                }
            }
            return false;
        }
    }

    /** A search, with its list and its steps; it can be made anew. */
    private static final class Search {
        private static final int TOOK_PART = 1;
        private static final int TOOK_OTHERS = 2;
        private static final int MADE_MORE = 3;
        // At most 23 steps make the dish smaller, and at most 4 ahead of each and 4 behind them make more parts.
        private static final int MOST_STEPS = 128;

        private final int[] facts = new int[MOST_STEPS * STEP_FACTS];
        /** At i the first i places of the dish, as a dish. */
        private final int[] firstPlaces = new int[MOST_PLACES + 1];
        private int dish;
        private int parts;
        private int steps;
        private int tastings;

        int list() {
            return dish;
        }

        int listSize() {
            return Integer.bitCount(dish);
        }

        int steps() {
            return steps;
        }

        int tastings() {
            return tastings;
        }

        int listPlace(int at) {
            int ahead = 0;
            for (int place = 0; place < MOST_PLACES; place++) {
                boolean listed = ((dish >> place) & 1) != 0;
                if (listed && ahead == at) {
                    return place;
                }
                ahead += listed ? 1 : 0;
            }
            return -1;
        }

        int stepFact(int step, int what) {
            boolean told = step >= 0 && step < steps && what >= 0 && what < STEP_FACTS;
            return told ? facts[step * STEP_FACTS + what] : 0;
        }

        void goByHalves(Taster taster, int whole) {
            boolean goesOn = begin(taster, whole);
            for (int turn = 0; goesOn && turn < MOST_STEPS; turn++) {
                goesOn = makeStep(taster);
            }
            tastings = taster.tastings();
        }

        void goOneByOne(Taster taster, int whole) {
            boolean goesOn = begin(taster, whole);
            for (int place = MOST_PLACES - 1; goesOn && place >= 0; place--) {
                int others = dish & ~(1 << place);
                if (others != dish && others != 0 && taster.looksSpoiled(others)) {
                    dish = others;
                }
            }
            tastings = taster.tastings();
        }

        /** Tastes the whole; returns whether there is anything to search. */
        private boolean begin(Taster taster, int whole) {
            taster.begin();
            boolean spoiled = taster.looksSpoiled(whole);
            dish = spoiled ? whole : 0;
            parts = 2;
            steps = 0;
            return spoiled;
        }

        /** Makes one step more by halves; returns false if the search is over. */
        private boolean makeStep(Taster taster) {
            int size = Integer.bitCount(dish);
            if (size <= 1) {
                return false;
            }
            countPlaces();
            int taken = firstSpoiledPart(taster, size);
            if (taken >= 0) {
                note(size, TOOK_PART, taken, partAt(taken, size));
                parts = 2;
                return true;
            }
            int spared = parts > 2 ? firstSparedPart(taster, size) : -1;
            if (spared >= 0) {
                note(size, TOOK_OTHERS, spared, dish & ~partAt(spared, size));
                parts = Math.max(parts - 1, 2);
                return true;
            }
            if (parts < size) {
                note(size, MADE_MORE, -1, dish);
                parts = Math.min(parts * 2, size);
                return true;
            }
            return false;
        }

        private void countPlaces() {
            int counted = 0;
            int first = 0;
            for (int place = 0; place < MOST_PLACES; place++) {
                if (((dish >> place) & 1) != 0) {
                    first |= 1 << place;
                    counted++;
                    firstPlaces[counted] = first;
                }
            }
        }

        private int firstSpoiledPart(Taster taster, int size) {
            for (int part = 0; part < parts; part++) {
                if (taster.looksSpoiled(partAt(part, size))) {
                    return part;
                }
            }
            return -1;
        }

        private int firstSparedPart(Taster taster, int size) {
            for (int part = 0; part < parts; part++) {
                if (taster.looksSpoiled(dish & ~partAt(part, size))) {
                    return part;
                }
            }
            return -1;
        }

        private int partAt(int part, int size) {
            if (part < 0 || part >= parts || size < 0 || size > MOST_PLACES) {
                return 0;
            }
            int from = part * size / parts;
            int to = (part + 1) * size / parts;
            return firstPlaces[to] & ~firstPlaces[from];
        }

        private void note(int size, int way, int part, int behind) {
            if (steps < MOST_STEPS) {
                int at = steps * STEP_FACTS;
                facts[at] = size;
                facts[at + 1] = parts;
                facts[at + 2] = way;
                facts[at + 3] = part;
                facts[at + 4] = behind;
                steps++;
            }
            dish = behind;
        }
    }
}
