import java.math.BigInteger;

/**
 * A test for each sentence of the promises 1 to 19 that names a boundary case; the sentence stands
 * ahead of its test. What was due was worked out by hand.
 */
public final class PromiseEdgeTests {
    /** Numbers that are outside of every bound; cut to 5 bits, or 5 times as many, some are inside. */
    private static final int[] FAR = {
        -1, -32, -33, 32, 64, 858993460, 1 << 30, 1 << 31, (1 << 31) + 1, Integer.MAX_VALUE};

    private PromiseEdgeTests() {
    }

    public static void main(String[] args) {
        newObjectIsEmpty();
        objectsAreApart();
        addTellsHowManyThereAre();
        addRefusesOtherKinds();
        addRefusesAPlace25();
        dropTakesOutAndMovesUp();
        dropOfAFullRecipe();
        dropRefusesOtherPlaces();
        kindAtTheEnds();
        kindRefusesOtherPlaces();
        ruleNumbers();
        ruleRefusesASeventh();
        needsFromNowOn();
        needsRefusesOtherRules();
        needsRefusesOtherKinds();
        needsRefusesWhatSpares();
        sparesFromNowOn();
        sparesRefusesOtherRules();
        sparesRefusesOtherKinds();
        sparesRefusesWhatItNeeds();
        toldFromNoKindToAll();
        toldOfAllPlaces();
        toldOfTheKeptList();
        toldOfTheRuleAsItIsNow();
        toldRefusesOtherRules();
        toldRefusesOtherWhats();
        spoilsIsNoTasting();
        spoilsAtTheEnds();
        spoilsRefusesOtherDishes();
        shrinkIsKeptIfNothingSpoils();
        shrinkTellsItsTastings();
        keptTellsPlacesOfThen();
        keptRefusesOtherPlaces();
        keptRefusesWithoutASearch();
        stepTellsAheadAndBehind();
        stepTellsMoreParts();
        stepRefusesOtherSteps();
        stepRefusesWithoutASearch();
        stepRefusesOtherWhats();
        countAtTheEnds();
        countsAre0WithoutASearch();
        countOfAllKeptSearches();
        countRefusesOtherWhats();
        wouldOfNoneAndOne();
        wouldChangesNothing();
        wouldRefusesOtherWhats();
        leastIs0IfNoneSpoils();
        leastFromOneToSixteen();
        leastWhereTheWholeIsSpared();
        tightWithoutAnyOne();
        tightOfOnePlace();
        tightOfAFullRecipe();
        tightRefusesOtherDishes();
        adviseOfNone();
        adviseOfOne();
        adviseIfNothingSpoilsThen();
        adviseTheSmallestOfSeveral();
        adviseTheLastPlace();
        adviseChangesNothing();
        meanWithoutRules();
        meanFromNoneToAll();
        meanIsNotCut();
        digestOfANewObject();
        digestWrapsAround();
        digestInItsOrder();
        digestOfAnEmptyKeptSearch();
        Check.end("PromiseEdgeTests");
    }

    private static int bits(int... places) {
        int bits = 0;
        for (int place : places) {
            bits += 1 << place;
        }
        return bits;
    }

    /** 0 1 2 3 with a rule that needs 0 and 3, searched: 10 tastings, 3 steps and a list of two. */
    private static FaultShrinker searched() {
        FaultShrinker x = Make.rowOf(4);
        Make.needing(x, 0, 3);
        x.shrink();
        return x;
    }

    // ---- promise 1

    // Creates an empty recipe, without rules.
    private static void newObjectIsEmpty() {
        FaultShrinker x = new FaultShrinker();
        Check.same("places", x.count(0), 0);
        Check.same("rules", x.count(1), 0);
        Check.outOfBounds("kind(0)", () -> x.kind(0));
        Check.outOfBounds("told(0, 0)", () -> x.told(0, 0));
        Check.no("spoils(0)", x.spoils(0));
        Check.badArgument("spoils(1)", () -> x.spoils(1));
        Check.same("shrink()", x.shrink(), 1);
    }

    // The same of each object, whatever became of others.
    private static void objectsAreApart() {
        FaultShrinker other = searched();
        FaultShrinker x = new FaultShrinker();
        for (int what = 0; what < 7; what++) {
            Check.same("count(" + what + ")", x.count(what), 0);
        }
        x.add(15);
        x.rule();
        x.shrink();
        Check.same("the other one's kind", other.kind(0), 0);
        Check.same("the other one's rule", other.told(0, 0), 9);
        Check.same("the other one's tastings", other.count(6), 10);
    }

    // ---- promise 2

    // Adds an ingredient to the end. Returns how many there are then.
    private static void addTellsHowManyThereAre() {
        FaultShrinker x = new FaultShrinker();
        Check.same("add() to none", x.add(0), 1);
        Check.same("its kind", x.kind(0), 0);
        for (int places = 2; places <= 23; places++) {
            x.add(1);
        }
        Check.same("add() to 23", x.add(15), 24);
        Check.same("the kind at the end", x.kind(23), 15);
        Check.same("the kind ahead of it", x.kind(22), 1);
    }

    // Throws IndexOutOfBoundsException if kind is not 0 to 15.
    private static void addRefusesOtherKinds() {
        FaultShrinker x = new FaultShrinker();
        Check.outOfBounds("add(16)", () -> x.add(16));
        for (int far : FAR) {
            Check.outOfBounds("add(" + far + ")", () -> x.add(far));
        }
        Check.same("none was added", x.count(0), 0);
        Check.same("add(0)", x.add(0), 1);
        Check.same("add(15)", x.add(15), 2);
    }

    // Throws IllegalStateException if there are 24.
    private static void addRefusesAPlace25() {
        FaultShrinker x = Make.rowOf(23);
        Check.same("add() of a place 24", x.add(15), 24);
        Check.badState("add(0) to 24", () -> x.add(0));
        Check.badState("add(15) to 24", () -> x.add(15));
        x.drop(0);
        Check.same("add() to 23 again", x.add(14), 24);
        Check.badState("add(0) to 24 again", () -> x.add(0));
    }

    // ---- promise 3

    // Takes an ingredient out; those behind it move up. Returns its kind.
    private static void dropTakesOutAndMovesUp() {
        FaultShrinker x = Make.recipeOf(5, 6, 7, 8);
        Check.same("drop() of the first", x.drop(0), 5);
        Check.same("the first is then", x.kind(0), 6);
        Check.same("the last is then", x.kind(2), 8);
        Check.same("drop() of the last", x.drop(2), 8);
        Check.same("none moves up behind it", x.kind(1), 7);
        Check.same("drop() of one of two", x.drop(0), 6);
        Check.same("drop() of the only one", x.drop(0), 7);
        Check.same("none is left", x.count(0), 0);
        x.add(9);
        Check.same("nothing of them comes back", x.kind(0), 9);
    }

    // The same of a full recipe.
    private static void dropOfAFullRecipe() {
        FaultShrinker x = Make.rowOf(24);
        Check.same("drop() of the last of 24", x.drop(23), 7);
        x.add(9);
        Check.same("drop() of the first of 24", x.drop(0), 0);
        for (int place = 0; place < 22; place++) {
            Check.same("moved up to " + place, x.kind(place), (place + 1) % 16);
        }
        Check.same("the last moved up", x.kind(22), 9);
        Check.outOfBounds("nothing is behind it", () -> x.kind(23));
    }

    // Throws IndexOutOfBoundsException if there is no such place.
    private static void dropRefusesOtherPlaces() {
        FaultShrinker empty = new FaultShrinker();
        Check.outOfBounds("drop(0) of none", () -> empty.drop(0));
        FaultShrinker x = Make.rowOf(24);
        Check.outOfBounds("drop(24) of 24", () -> x.drop(24));
        for (int far : FAR) {
            Check.outOfBounds("drop(" + far + ")", () -> x.drop(far));
        }
        x.drop(5);
        Check.outOfBounds("drop(23) of 23", () -> x.drop(23));
        Check.same("23 are left", x.count(0), 23);
    }

    // ---- promise 4

    // Returns the kind there.
    private static void kindAtTheEnds() {
        FaultShrinker x = Make.rowOf(24);
        Check.same("kind(0)", x.kind(0), 0);
        Check.same("kind(15)", x.kind(15), 15);
        Check.same("kind(16)", x.kind(16), 0);
        Check.same("kind(23)", x.kind(23), 7);
    }

    // Throws IndexOutOfBoundsException if there is no such place.
    private static void kindRefusesOtherPlaces() {
        FaultShrinker empty = new FaultShrinker();
        Check.outOfBounds("kind(0) of none", () -> empty.kind(0));
        FaultShrinker x = Make.rowOf(24);
        Check.outOfBounds("kind(24) of 24", () -> x.kind(24));
        for (int far : FAR) {
            Check.outOfBounds("kind(" + far + ")", () -> x.kind(far));
        }
        x.drop(0);
        Check.outOfBounds("kind(23) of 23", () -> x.kind(23));
        Check.same("kind(22) of 23", x.kind(22), 7);
    }

    // ---- promise 5

    // Returns the number of a new rule.
    private static void ruleNumbers() {
        FaultShrinker x = new FaultShrinker();
        for (int rule = 0; rule < 6; rule++) {
            Check.same("rule()", x.rule(), rule);
            Check.same("count(1)", x.count(1), rule + 1);
        }
    }

    // Throws IllegalStateException if 6 were told.
    private static void ruleRefusesASeventh() {
        FaultShrinker x = new FaultShrinker();
        for (int rule = 0; rule < 5; rule++) {
            x.rule();
        }
        Check.same("the sixth", x.rule(), 5);
        Check.badState("a seventh", () -> x.rule());
        Check.badState("an eighth", () -> x.rule());
        Check.same("six were told", x.count(1), 6);
    }

    // ---- promise 6

    // needs: whether it needs it from now on. Returns whether it did before.
    private static void needsFromNowOn() {
        FaultShrinker x = Make.rowOf(16);
        x.rule();
        for (int kind : new int[] {0, 15}) {
            Check.no("it did not before", x.setNeeds(0, kind, false));
            Check.no("it did not before", x.setNeeds(0, kind, true));
            Check.yes("it did before", x.setNeeds(0, kind, true));
            Check.yes("and holds", x.spoils(1 << kind));
            Check.yes("it did before", x.setNeeds(0, kind, false));
            Check.no("and does not any more", x.setNeeds(0, kind, false));
            Check.no("nor does it hold", x.spoils(1 << kind));
        }
        Check.same("nothing is needed", x.told(0, 0), 0);
    }

    // Throws IndexOutOfBoundsException if there is no such rule.
    private static void needsRefusesOtherRules() {
        FaultShrinker x = new FaultShrinker();
        Check.outOfBounds("without rules", () -> x.setNeeds(0, 0, true));
        for (int rule = 0; rule < 6; rule++) {
            int next = x.rule() + 1;
            Check.outOfBounds("setNeeds(" + next + ", 0, true)", () -> x.setNeeds(next, 0, true));
            Check.outOfBounds("setNeeds(" + next + ", 0, false)", () -> x.setNeeds(next, 0, false));
            Check.no("the last rule", x.setNeeds(rule, 0, true));
        }
        for (int far : FAR) {
            Check.outOfBounds("setNeeds(" + far + ", 0, true)", () -> x.setNeeds(far, 0, true));
            Check.outOfBounds("setNeeds(" + far + ", 0, false)", () -> x.setNeeds(far, 0, false));
        }
    }

    // Or kind is not 0 to 15.
    private static void needsRefusesOtherKinds() {
        FaultShrinker x = new FaultShrinker();
        x.rule();
        Check.outOfBounds("setNeeds(0, 16, true)", () -> x.setNeeds(0, 16, true));
        Check.outOfBounds("setNeeds(0, 16, false)", () -> x.setNeeds(0, 16, false));
        for (int far : FAR) {
            Check.outOfBounds("setNeeds(0, " + far + ", true)", () -> x.setNeeds(0, far, true));
            Check.outOfBounds("setNeeds(0, " + far + ", false)", () -> x.setNeeds(0, far, false));
        }
        Check.outOfBounds("neither rule nor kind", () -> x.setNeeds(1, 16, true));
        Check.same("nothing is needed", x.told(0, 0), 0);
    }

    // Throws IllegalStateException if this kind spares it, and needs is true.
    private static void needsRefusesWhatSpares() {
        FaultShrinker x = new FaultShrinker();
        x.rule();
        x.rule();
        for (int kind : new int[] {0, 15}) {
            x.setSpares(1, kind, true);
            Check.badState("needs " + kind, () -> x.setNeeds(1, kind, true));
            Check.no("needs is false", x.setNeeds(1, kind, false));
            Check.yes("it spares still", x.setSpares(1, kind, true));
            Check.no("another kind", x.setNeeds(1, 7, true));
            Check.no("another rule", x.setNeeds(0, kind, true));
            x.setSpares(1, kind, false);
            Check.no("when it spares no more", x.setNeeds(1, kind, true));
            x.setNeeds(1, 7, false);
        }
    }

    // ---- promise 7

    // spares: whether it spares it from now on. Returns whether it did before.
    private static void sparesFromNowOn() {
        FaultShrinker x = Make.rowOf(16);
        Make.needing(x, 7);
        for (int kind : new int[] {0, 15}) {
            int dish = bits(7, kind);
            Check.no("it did not before", x.setSpares(0, kind, false));
            Check.no("it did not before", x.setSpares(0, kind, true));
            Check.yes("it did before", x.setSpares(0, kind, true));
            Check.no("and is spared", x.spoils(dish));
            Check.yes("it did before", x.setSpares(0, kind, false));
            Check.no("and does not any more", x.setSpares(0, kind, false));
            Check.yes("nor is it spared", x.spoils(dish));
        }
        Check.same("nothing spares it", x.told(0, 1), 0);
    }

    // Throws IndexOutOfBoundsException if there is no such rule.
    private static void sparesRefusesOtherRules() {
        FaultShrinker x = new FaultShrinker();
        Check.outOfBounds("without rules", () -> x.setSpares(0, 0, true));
        for (int rule = 0; rule < 6; rule++) {
            int next = x.rule() + 1;
            Check.outOfBounds("setSpares(" + next + ", 0, true)", () -> x.setSpares(next, 0, true));
            Check.outOfBounds("setSpares(" + next + ", 0, false)", () -> x.setSpares(next, 0, false));
            Check.no("the last rule", x.setSpares(rule, 0, true));
        }
        for (int far : FAR) {
            Check.outOfBounds("setSpares(" + far + ", 0, true)", () -> x.setSpares(far, 0, true));
            Check.outOfBounds("setSpares(" + far + ", 0, false)", () -> x.setSpares(far, 0, false));
        }
    }

    // Or kind is not 0 to 15.
    private static void sparesRefusesOtherKinds() {
        FaultShrinker x = new FaultShrinker();
        x.rule();
        Check.outOfBounds("setSpares(0, 16, true)", () -> x.setSpares(0, 16, true));
        Check.outOfBounds("setSpares(0, 16, false)", () -> x.setSpares(0, 16, false));
        for (int far : FAR) {
            Check.outOfBounds("setSpares(0, " + far + ", true)", () -> x.setSpares(0, far, true));
            Check.outOfBounds("setSpares(0, " + far + ", false)", () -> x.setSpares(0, far, false));
        }
        Check.outOfBounds("neither rule nor kind", () -> x.setSpares(1, 16, true));
        Check.same("nothing spares it", x.told(0, 1), 0);
    }

    // Throws IllegalStateException if it needs this kind, and spares is true.
    private static void sparesRefusesWhatItNeeds() {
        FaultShrinker x = new FaultShrinker();
        x.rule();
        x.rule();
        for (int kind : new int[] {0, 15}) {
            x.setNeeds(1, kind, true);
            Check.badState("spares " + kind, () -> x.setSpares(1, kind, true));
            Check.no("spares is false", x.setSpares(1, kind, false));
            Check.yes("it is needed still", x.setNeeds(1, kind, true));
            Check.no("another kind", x.setSpares(1, 7, true));
            Check.no("another rule", x.setSpares(0, kind, true));
            x.setNeeds(1, kind, false);
            Check.no("when it is needed no more", x.setSpares(1, kind, true));
            x.setSpares(1, 7, false);
        }
    }

    // ---- promise 8

    // 0 kinds that it needs, as bits, 1 kinds that spare it, as bits, 2 how many it needs.
    private static void toldFromNoKindToAll() {
        FaultShrinker x = Make.allNeeded(16);
        Check.same("all are needed", x.told(0, 0), 65535);
        Check.same("so many", x.told(0, 2), 16);
        Check.same("none spares", x.told(0, 1), 0);
        x.rule();
        for (int kind = 0; kind < 16; kind++) {
            x.setSpares(1, kind, true);
        }
        Check.same("all spare", x.told(1, 1), 65535);
        Check.same("none is needed", x.told(1, 0), 0);
        Check.same("so many", x.told(1, 2), 0);
    }

    // 3 1 if it holds for the dish of all places, else 0.
    private static void toldOfAllPlaces() {
        FaultShrinker x = new FaultShrinker();
        x.rule();
        Check.same("of no places, needing nothing", x.told(0, 3), 0);
        x.setNeeds(0, 7, true);
        Check.same("of no places", x.told(0, 3), 0);
        for (int place = 0; place < 23; place++) {
            x.add(3);
        }
        Check.same("of 23 others", x.told(0, 3), 0);
        x.add(7);
        Check.same("with the last of 24", x.told(0, 3), 1);
        x.setSpares(0, 3, true);
        Check.same("spared by the first 23", x.told(0, 3), 0);
    }

    // 4 1 if it holds for the kinds of the list of the kept search as the recipe was then, else 0.
    private static void toldOfTheKeptList() {
        FaultShrinker x = Make.rowOf(4);
        Make.needing(x, 0, 3);
        Check.same("without a kept search", x.told(0, 4), 0);
        x.shrink();
        Check.same("of a list", x.told(0, 4), 1);
        for (int left = 4; left > 0; left--) {
            x.drop(0);
        }
        x.add(3);
        Check.same("when the recipe is another", x.told(0, 4), 1);
        Check.same("it does not hold for that", x.told(0, 3), 0);
        x.shrink();
        Check.same("of an empty list", x.told(0, 4), 0);
        FaultShrinker full = Make.rowOf(24);
        Make.needing(full, 15);
        for (int place = 0; place < 15; place++) {
            full.drop(0);
        }
        full.shrink();
        full.drop(0);
        Check.same("of a list that was dropped", full.told(0, 4), 1);
    }

    // It, as it is now.
    private static void toldOfTheRuleAsItIsNow() {
        FaultShrinker x = searched();
        x.setNeeds(0, 1, true);
        Check.same("it needs more than is in the list", x.told(0, 4), 0);
        x.setNeeds(0, 1, false);
        x.setNeeds(0, 0, false);
        x.setNeeds(0, 3, false);
        Check.same("it needs nothing", x.told(0, 4), 0);
        Make.needing(x, 3);
        Check.same("a rule told later", x.told(1, 4), 1);
        x.setSpares(1, 1, true);
        Check.same("spared by what is not in the list", x.told(1, 4), 1);
        x.setSpares(1, 0, true);
        Check.same("spared by what is in it", x.told(1, 4), 0);
    }

    // Throws IndexOutOfBoundsException if there is no such rule.
    private static void toldRefusesOtherRules() {
        FaultShrinker x = new FaultShrinker();
        for (int rules = 0; rules <= 6; rules++) {
            int next = rules;
            for (int what = 0; what < 5; what++) {
                int it = what;
                Check.outOfBounds("told(" + next + ", " + it + ")", () -> x.told(next, it));
            }
            if (rules < 6) {
                x.rule();
            }
        }
        for (int far : FAR) {
            Check.outOfBounds("told(" + far + ", 0)", () -> x.told(far, 0));
            Check.outOfBounds("told(" + far + ", 4)", () -> x.told(far, 4));
        }
    }

    // Or what is not 0 to 4.
    private static void toldRefusesOtherWhats() {
        FaultShrinker x = searched();
        Check.outOfBounds("told(0, 5)", () -> x.told(0, 5));
        for (int far : FAR) {
            Check.outOfBounds("told(0, " + far + ")", () -> x.told(0, far));
        }
        Check.same("told(0, 0)", x.told(0, 0), 9);
        Check.same("told(0, 4)", x.told(0, 4), 1);
    }

    // ---- promise 9

    // This is no tasting.
    private static void spoilsIsNoTasting() {
        FaultShrinker x = Make.rowOf(4);
        Make.needing(x, 0, 3);
        Check.yes("spoils(15)", x.spoils(15));
        Check.same("no tastings", x.count(6), 0);
        Check.same("shrink() does not know of it", x.shrink(), 10);
        Check.yes("spoils(9)", x.spoils(9));
        Check.same("its tastings are not more", x.count(5), 10);
        Check.same("nor are all", x.count(6), 10);
    }

    // Returns whether it spoils: of the dish of none, and of all places.
    private static void spoilsAtTheEnds() {
        FaultShrinker x = Make.rowOf(24);
        Make.needing(x, 0, 15);
        Check.no("none of 24", x.spoils(0));
        Check.yes("all of 24", x.spoils((1 << 24) - 1));
        Check.yes("the places 15 and 16", x.spoils(bits(15, 16)));
        Check.no("the places 15 and 23", x.spoils(bits(15, 23)));
    }

    // Throws IllegalArgumentException if dish is less than 0, or has a place that there is not.
    private static void spoilsRefusesOtherDishes() {
        FaultShrinker x = new FaultShrinker();
        for (int places = 0; places <= 24; places++) {
            int above = 1 << places;
            Check.badArgument("spoils(" + above + ")", () -> x.spoils(above));
            Check.badArgument("spoils(" + (above + above - 1) + ")", () -> x.spoils(above + above - 1));
            Check.no("the greatest dish", x.spoils(above - 1));
            if (places < 24) {
                x.add(1);
            }
        }
        Check.badArgument("spoils(16777217)", () -> x.spoils(16777217));
        for (int dish : new int[] {-1, -2, -16777216, 1 << 25, 1 << 30, Make.MAX, Make.MIN, Make.MIN + 1}) {
            Check.badArgument("spoils(" + dish + ")", () -> x.spoils(dish));
        }
    }

    // ---- promise 10

    // Searches by halves; this search is kept (also if nothing spoils).
    private static void shrinkIsKeptIfNothingSpoils() {
        FaultShrinker x = searched();
        x.setNeeds(0, 9, true);
        Check.same("shrink() where nothing spoils", x.shrink(), 1);
        Check.same("places of its list", x.count(3), 0);
        Check.same("its steps", x.count(4), 0);
        Check.same("its tastings", x.count(5), 1);
        Check.same("tastings of both", x.count(6), 11);
        Check.outOfBounds("kept(0)", () -> x.kept(0));
        Check.outOfBounds("step(0, 0)", () -> x.step(0, 0));
    }

    // Returns how many tastings it took.
    private static void shrinkTellsItsTastings() {
        int[] due = {1, 1, 3, 7, 11, 15, 19, 23, 27};
        for (int places = 0; places < due.length; places++) {
            FaultShrinker x = Make.allNeeded(places);
            Check.same("shrink() of " + places + " that are all needed", x.shrink(), due[places]);
            Check.same("count(5)", x.count(5), due[places]);
            Check.same("count(3)", x.count(3), places);
        }
    }

    // ---- promise 11

    // Returns the place of the recipe as it was then.
    private static void keptTellsPlacesOfThen() {
        FaultShrinker x = Make.rowOf(24);
        for (int place = 0; place < 8; place++) {
            x.drop(0);
        }
        // The kinds are 8 to 15 and 0 to 7 then.
        Make.needing(x, 8, 7);
        x.shrink();
        Make.checkKept(x, 0, 15);
        x.drop(0);
        Make.checkKept(x, 0, 15);
        FaultShrinker full = Make.recipeOf(0, 1, 1, 1, 1, 1, 1, 1, 1, 1, 1, 1, 1, 1, 1, 1, 1, 1, 1, 1, 1, 1, 1, 2);
        Make.needing(full, 0, 2);
        full.shrink();
        Make.checkKept(full, 0, 23);
    }

    // Throws IndexOutOfBoundsException if there is no such place.
    private static void keptRefusesOtherPlaces() {
        FaultShrinker x = searched();
        Check.same("the last", x.kept(1), 3);
        Check.outOfBounds("kept(2) of two", () -> x.kept(2));
        Check.outOfBounds("kept(3), a place of the recipe", () -> x.kept(3));
        for (int far : FAR) {
            Check.outOfBounds("kept(" + far + ")", () -> x.kept(far));
        }
        FaultShrinker all = Make.allNeeded(16);
        all.shrink();
        Check.same("the last of 16", all.kept(15), 15);
        Check.outOfBounds("kept(16) of 16", () -> all.kept(16));
    }

    // Or no kept search.
    private static void keptRefusesWithoutASearch() {
        FaultShrinker x = Make.allNeeded(4);
        x.would(0);
        Check.outOfBounds("kept(0)", () -> x.kept(0));
        for (int far : FAR) {
            Check.outOfBounds("kept(" + far + ")", () -> x.kept(far));
        }
    }

    // ---- promise 12

    // 0 how many places the dish had ahead of it, 1 how many parts there were, 4 the dish behind it.
    private static void stepTellsAheadAndBehind() {
        FaultShrinker x = Make.recipeOf(1, 1, 1, 1, 1, 1, 1, 1, 1, 1, 1, 1, 1, 1, 1, 1, 1, 1, 1, 1, 1, 1, 1, 2);
        Make.needing(x, 2);
        Check.same("shrink() to the last of 24", x.shrink(), 11);
        Make.checkSteps(x, new int[][] {
            {24, 2, 1, 1, 0xFFF000}, {12, 2, 1, 1, 0xFC0000}, {6, 2, 1, 1, 0xE00000},
            {3, 2, 1, 1, 0xC00000}, {2, 2, 1, 1, 0x800000}});
    }

    // 2 1 if it took a part, 2 if it took the others, 3 if it made more parts, 3 -1 if it made more parts.
    private static void stepTellsMoreParts() {
        FaultShrinker x = searched();
        Check.same("it made more parts", x.step(0, 2), 3);
        Check.same("of none", x.step(0, 3), -1);
        Check.same("the dish stays", x.step(0, 4), 15);
        Check.same("it took the others", x.step(1, 2), 2);
        Check.same("it spared the part", x.step(1, 3), 1);
        FaultShrinker part = Make.rowOf(2);
        Make.needing(part, 0);
        part.shrink();
        Check.same("it took a part", part.step(0, 2), 1);
        Check.same("the part", part.step(0, 3), 0);
    }

    // Throws IndexOutOfBoundsException if there is no such step.
    private static void stepRefusesOtherSteps() {
        FaultShrinker x = searched();
        Check.same("the last", x.step(2, 4), 9);
        for (int what = 0; what < 5; what++) {
            int it = what;
            Check.outOfBounds("step(3, " + it + ") of three", () -> x.step(3, it));
            for (int far : FAR) {
                Check.outOfBounds("step(" + far + ", " + it + ")", () -> x.step(far, it));
            }
        }
        FaultShrinker shorter = Make.rowOf(8);
        Make.needing(shorter, 2, 7);
        shorter.shrink();
        Check.same("the last of six", shorter.step(5, 4), 132);
        shorter.setNeeds(0, 2, false);
        shorter.shrink();
        Check.same("the last of three", shorter.step(2, 4), 128);
        Check.outOfBounds("step(3, 0), which was in the one before", () -> shorter.step(3, 0));
        FaultShrinker none = Make.allNeeded(1);
        none.shrink();
        Check.outOfBounds("step(0, 0) of none", () -> none.step(0, 0));
    }

    // Or no kept search.
    private static void stepRefusesWithoutASearch() {
        FaultShrinker x = Make.allNeeded(4);
        Check.same("it would have a step", x.would(2), 1);
        for (int what = 0; what < 5; what++) {
            int it = what;
            Check.outOfBounds("step(0, " + it + ")", () -> x.step(0, it));
        }
        Check.outOfBounds("step(-1, 0)", () -> x.step(-1, 0));
    }

    // Or what is not 0 to 4.
    private static void stepRefusesOtherWhats() {
        FaultShrinker x = searched();
        for (int step = 0; step < 3; step++) {
            int it = step;
            Check.outOfBounds("step(" + it + ", 5)", () -> x.step(it, 5));
            for (int far : FAR) {
                Check.outOfBounds("step(" + it + ", " + far + ")", () -> x.step(it, far));
            }
        }
        Check.same("step(1, 0)", x.step(1, 0), 4);
        Check.same("step(1, 4)", x.step(1, 4), 13);
    }

    // ---- promise 13

    // 0 places of the recipe, 1 rules, 2 rules that hold for the dish of all places.
    private static void countAtTheEnds() {
        FaultShrinker x = new FaultShrinker();
        Check.same("no places", x.count(0), 0);
        Check.same("no rules", x.count(1), 0);
        Check.same("none holds", x.count(2), 0);
        for (int rule = 0; rule < 6; rule++) {
            x.rule();
        }
        Check.same("six rules", x.count(1), 6);
        Check.same("none holds that needs nothing", x.count(2), 0);
        for (int rule = 0; rule < 6; rule++) {
            x.setNeeds(rule, 15 - rule, true);
        }
        Check.same("none holds for none", x.count(2), 0);
        for (int place = 0; place < 24; place++) {
            x.add(place % 16);
        }
        Check.same("24 places", x.count(0), 24);
        Check.same("all six hold", x.count(2), 6);
        x.setSpares(5, 0, true);
        Check.same("all but the last", x.count(2), 5);
    }

    // 3 places of the list of the kept search, 4 its steps, 5 its tastings; 3 to 5 are 0 without one.
    private static void countsAre0WithoutASearch() {
        FaultShrinker x = Make.rowOf(4);
        Make.needing(x, 0, 3);
        x.would(1);
        x.would(4);
        x.advise();
        for (int what = 3; what <= 5; what++) {
            Check.same("count(" + what + ") without one", x.count(what), 0);
        }
        x.shrink();
        Check.same("count(3) with one", x.count(3), 2);
        Check.same("count(4) with one", x.count(4), 3);
        Check.same("count(5) with one", x.count(5), 10);
    }

    // 6 tastings of all searches that were kept.
    private static void countOfAllKeptSearches() {
        FaultShrinker x = Make.rowOf(4);
        Check.same("of none", x.count(6), 0);
        x.shrink();
        Check.same("of one that found nothing", x.count(6), 1);
        Make.needing(x, 0, 3);
        x.shrink();
        Check.same("of two", x.count(6), 11);
        x.would(1);
        x.advise();
        x.digest();
        Check.same("not of those that were not kept", x.count(6), 11);
        x.shrink();
        Check.same("of three", x.count(6), 21);
    }

    // Throws IndexOutOfBoundsException if what is not 0 to 6.
    private static void countRefusesOtherWhats() {
        for (FaultShrinker x : new FaultShrinker[] {new FaultShrinker(), searched()}) {
            Check.outOfBounds("count(7)", () -> x.count(7));
            for (int far : FAR) {
                Check.outOfBounds("count(" + far + ")", () -> x.count(far));
            }
        }
        Check.same("count(0)", searched().count(0), 4);
        Check.same("count(6)", searched().count(6), 10);
    }

    // ---- promise 14

    // Of a search by halves that would be made now, of a search one by one: with no place, and with one.
    private static void wouldOfNoneAndOne() {
        int[] ofNone = {0, 1, 0, 0, 1};
        int[] ofOne = {1, 1, 0, 1, 1};
        int[] ofOther = {0, 1, 0, 0, 1};
        FaultShrinker other = Make.rowOf(1);
        Make.needing(other, 1);
        for (int what = 0; what < 5; what++) {
            Check.same("would(" + what + ") of none", new FaultShrinker().would(what), ofNone[what]);
            Check.same("would(" + what + ") of one", Make.allNeeded(1).would(what), ofOne[what]);
            Check.same("would(" + what + ") of one that does not spoil", other.would(what), ofOther[what]);
        }
    }

    // Nothing is changed.
    private static void wouldChangesNothing() {
        FaultShrinker x = searched();
        x.drop(1);
        String before = Make.stateOf(x);
        for (int what = 0; what < 5; what++) {
            int first = x.would(what);
            Check.same("state behind would(" + what + ")", Make.stateOf(x), before);
            Check.same("would(" + what + ") again", x.would(what), first);
        }
        Make.checkKept(x, 0, 3);
    }

    // Throws IndexOutOfBoundsException if what is not 0 to 4.
    private static void wouldRefusesOtherWhats() {
        for (FaultShrinker x : new FaultShrinker[] {new FaultShrinker(), searched()}) {
            Check.outOfBounds("would(5)", () -> x.would(5));
            for (int far : FAR) {
                Check.outOfBounds("would(" + far + ")", () -> x.would(far));
            }
        }
        Check.same("would(0)", searched().would(0), 9);
        Check.same("would(4)", searched().would(4), 5);
    }

    // ---- promise 15

    // 0 if none does.
    private static void leastIs0IfNoneSpoils() {
        FaultShrinker x = new FaultShrinker();
        Check.same("of nothing", x.least(), 0);
        x.rule();
        Check.same("of no places, needing nothing", x.least(), 0);
        x.setNeeds(0, 3, true);
        Check.same("of no places", x.least(), 0);
        x.add(2);
        Check.same("of another kind", x.least(), 0);
        x.setNeeds(0, 2, true);
        Check.same("of one of two kinds", x.least(), 0);
        FaultShrinker full = Make.rowOf(24);
        Check.same("of 24 without rules", full.least(), 0);
        full.rule();
        Check.same("of 24, needing nothing", full.least(), 0);
    }

    // Returns how many places the least dish has that spoils.
    private static void leastFromOneToSixteen() {
        Check.same("of one place", Make.allNeeded(1).least(), 1);
        FaultShrinker x = Make.allNeeded(16);
        Check.same("of 16 kinds", x.least(), 16);
        for (int place = 16; place < 24; place++) {
            x.add(15);
        }
        Check.same("of 16 kinds at 24 places", x.least(), 16);
        Make.needing(x, 3, 4, 5);
        Make.needing(x, 0, 15);
        Make.needing(x, 6, 7, 8);
        Check.same("of several rules", x.least(), 2);
        x.rule();
        Make.needing(x, 9);
        Check.same("of the last of six", x.least(), 1);
    }

    // The same, where the dish of all places does not spoil: a smaller one may.
    private static void leastWhereTheWholeIsSpared() {
        FaultShrinker x = Make.rowOf(3);
        Make.sparing(x, Make.needing(x, 0, 2), 1);
        Check.same("the whole does not spoil", x.would(1), 1);
        Check.same("a dish of two does", x.least(), 2);
        Check.yes("that one", x.spoils(5));
    }

    // ---- promise 16

    // Returns whether it spoils, and no longer does without any one of its places.
    private static void tightWithoutAnyOne() {
        FaultShrinker x = Make.rowOf(4);
        Make.needing(x, 0, 3);
        Check.yes("the first and the last", x.isTight(9));
        Check.no("one place more in the midst", x.isTight(11));
        Check.no("all", x.isTight(15));
        Check.no("the first alone does not spoil", x.isTight(1));
        Check.no("none", x.isTight(0));
        FaultShrinker y = Make.recipeOf(5, 6, 5);
        Make.needing(y, 5, 6);
        Check.no("the first can be spared, and so can the last", y.isTight(7));
        Check.yes("without the last", y.isTight(3));
        Check.yes("without the first", y.isTight(6));
        FaultShrinker z = Make.rowOf(3);
        Make.needing(z, 1, 2);
        Check.no("the first alone can be spared", z.isTight(7));
        FaultShrinker last = Make.rowOf(3);
        Make.needing(last, 0, 1);
        Check.no("the last alone can be spared", last.isTight(7));
    }

    // The same of one place: without it none is left, which does not spoil.
    private static void tightOfOnePlace() {
        Check.yes("one that spoils", Make.allNeeded(1).isTight(1));
        Check.no("none of it", Make.allNeeded(1).isTight(0));
        Check.no("one without rules", Make.rowOf(1).isTight(1));
        FaultShrinker full = Make.rowOf(24);
        Make.needing(full, 7);
        Check.yes("the last of 24", full.isTight(1 << 23));
        Check.no("the last of 24 and another 7", full.isTight(bits(7, 23)));
    }

    // The same of 16 places at the end of 24, and of all 24.
    private static void tightOfAFullRecipe() {
        FaultShrinker x = Make.rowOf(24);
        int rule = x.rule();
        for (int kind = 0; kind < 16; kind++) {
            x.setNeeds(rule, kind, true);
        }
        Check.yes("the last 16", x.isTight(0xFFFF00));
        Check.yes("the first 16", x.isTight(0x00FFFF));
        Check.no("the last 17", x.isTight(0xFFFF80));
        Check.no("the first 17", x.isTight(0x01FFFF));
        Check.no("all 24", x.isTight(0xFFFFFF));
    }

    // Throws IllegalArgumentException if dish is less than 0, or has a place that there is not.
    private static void tightRefusesOtherDishes() {
        FaultShrinker x = new FaultShrinker();
        for (int places = 0; places <= 24; places++) {
            int above = 1 << places;
            Check.badArgument("isTight(" + above + ")", () -> x.isTight(above));
            Check.badArgument("isTight(" + (above + above - 1) + ")", () -> x.isTight(above + above - 1));
            Check.no("the greatest dish", x.isTight(above - 1));
            if (places < 24) {
                x.add(1);
            }
        }
        for (int dish : new int[] {-1, -2, -16777216, 16777217, 1 << 25, 1 << 30, Make.MAX, Make.MIN, Make.MIN + 1}) {
            Check.badArgument("isTight(" + dish + ")", () -> x.isTight(dish));
        }
    }

    // ---- promise 17

    // -1 if it is empty.
    private static void adviseOfNone() {
        FaultShrinker x = new FaultShrinker();
        Check.same("of a new object", x.advise(), -1);
        Make.needing(x, 0);
        Check.same("with a rule", x.advise(), -1);
        x.add(0);
        x.drop(0);
        Check.same("of an emptied recipe", x.advise(), -1);
    }

    // Returns the place of the recipe without which: of one place, that one.
    private static void adviseOfOne() {
        Check.same("one that spoils", Make.allNeeded(1).advise(), 0);
        Check.same("one that does not", Make.rowOf(1).advise(), 0);
    }

    // Also if nothing spoils then.
    private static void adviseIfNothingSpoilsThen() {
        FaultShrinker x = Make.rowOf(4);
        Make.needing(x, 1);
        Check.same("without 1 nothing spoils: one tasting", x.advise(), 1);
        FaultShrinker y = Make.rowOf(4);
        Make.sparing(y, Make.needing(y, 2), 0);
        Check.same("it does not spoil: so does it without 1", y.advise(), 1);
    }

    // Of several the smallest one.
    private static void adviseTheSmallestOfSeveral() {
        Check.same("where nothing spoils at all", Make.rowOf(24).advise(), 0);
        Check.same("where each is needed", Make.allNeeded(16).advise(), 0);
        FaultShrinker x = Make.rowOf(4);
        Make.needing(x, 1, 3);
        Check.same("without 1 or 3 nothing spoils", x.advise(), 1);
    }

    // Without which the search by halves would take the fewest tastings: it may be the last of 24.
    private static void adviseTheLastPlace() {
        FaultShrinker x = Make.recipeOf(1, 1, 1, 1, 1, 1, 1, 1, 1, 1, 1, 1, 1, 1, 1, 1, 1, 1, 1, 1, 1, 1, 1, 2);
        Make.needing(x, 2);
        Check.same("the last of 24", x.advise(), 23);
    }

    // Nothing is changed.
    private static void adviseChangesNothing() {
        FaultShrinker x = searched();
        x.drop(2);
        String before = Make.stateOf(x);
        int first = x.advise();
        Check.same("state behind advise()", Make.stateOf(x), before);
        Check.same("advise() again", x.advise(), first);
        Make.checkKept(x, 0, 3);
    }

    // ---- promise 18

    // 0 without rules.
    private static void meanWithoutRules() {
        Check.same("of a new object", new FaultShrinker().mean(), 0.0);
        Check.same("of a full recipe", Make.rowOf(24).mean(), 0.0);
    }

    // Returns the mean of how many kinds rules need.
    private static void meanFromNoneToAll() {
        FaultShrinker x = new FaultShrinker();
        for (int rule = 0; rule < 6; rule++) {
            x.rule();
            Check.same("of rules that need nothing", x.mean(), 0.0);
        }
        for (int rule = 0; rule < 6; rule++) {
            for (int kind = 0; kind < 16; kind++) {
                x.setNeeds(rule, kind, true);
            }
        }
        Check.same("of six that need all 16", x.mean(), 16.0);
        x.setNeeds(5, 15, false);
        Check.same("of five and one that needs 15", x.mean(), 95.0 / 6.0);
    }

    // The same: it is a double, not cut.
    private static void meanIsNotCut() {
        FaultShrinker x = new FaultShrinker();
        Make.needing(x, 15);
        Check.same("1 / 1", x.mean(), 1.0);
        x.rule();
        Check.same("1 / 2", x.mean(), 0.5);
        x.rule();
        Check.same("1 / 3", x.mean(), 1.0 / 3.0);
        x.rule();
        x.rule();
        x.rule();
        Check.same("1 / 6", x.mean(), 1.0 / 6.0);
        Make.sparing(x, 5, 1, 2, 3);
        Check.same("what spares is not needed", x.mean(), 1.0 / 6.0);
    }

    // ---- promise 19

    // A number d starts with 1499.
    private static void digestOfANewObject() {
        Check.same("digest() of a new object", new FaultShrinker().digest(),
            Make.folded(0, 0, 0, 0, 0, 0, 0, 0, 1, 0, 0, 1, 0));
    }

    // d becomes d * 31 + x, which wraps around as a 64-bit integer.
    private static void digestWrapsAround() {
        int[] numbers = {4, 1, 1, 2, 3, 10, 10, 0, 1, 2, 3, 9, 0, 2, 1, 1, 0, 3,
            4, 2, 3, -1, 15, 4, 4, 2, 1, 13, 3, 3, 2, 1, 9, 9, 10, 3, 9, 5, 2};
        BigInteger d = BigInteger.valueOf(1499);
        for (int number : numbers) {
            d = d.multiply(BigInteger.valueOf(31)).add(BigInteger.valueOf(number));
        }
        Check.yes("it is far beyond 64 bits", d.bitLength() > 128);
        Check.same("digest() of a searched object", searched().digest(), d.longValue());
    }

    // In its order: what count() tells, kinds, rules, the kept list, its steps, what would() tells, least().
    private static void digestInItsOrder() {
        FaultShrinker x = Make.rowOf(3);
        Make.needing(x, 0);
        x.shrink();
        x.shrink();
        x.drop(0);
        x.add(0);
        Make.sparing(x, Make.needing(x, 7), 15);
        Check.same("digest()", x.digest(), Make.folded(
            3, 2, 1, 1, 1, 2, 4,
            1, 2, 0,
            1, 0, 1, 1, 1, 128, 32768, 1, 0, 0,
            0,
            3, 2, 1, 0, 1,
            4, 5, 2, 4, 4, 1));
    }

    // The same of a kept search without list and steps: there are no numbers of them.
    private static void digestOfAnEmptyKeptSearch() {
        FaultShrinker x = new FaultShrinker();
        x.shrink();
        Check.same("of an empty recipe", x.digest(), Make.folded(0, 0, 0, 0, 0, 1, 1, 0, 1, 0, 0, 1, 0));
        FaultShrinker one = Make.allNeeded(1);
        one.shrink();
        Check.same("of one place", one.digest(), Make.folded(
            1, 1, 1, 1, 0, 1, 1, 0, 1, 0, 1, 1, 1, 0, 1, 1, 0, 1, 1, 1));
    }
}
