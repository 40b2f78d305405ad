/**
 * A test for each sentence of 'What it is', 'The public face' and 'Terms' that names a boundary
 * case; the sentence stands ahead of its test. What was due was worked out by hand.
 */
public final class TermsEdgeTests {
    private TermsEdgeTests() {
    }

    public static void main(String[] args) {
        shortCallsUpToTheLast();
        longSearchesUpToTheLastCall();
        divisionIsCut();
        recipeFromNoneToFull();
        kindsFromFirstToLast();
        placesAreCountedFrom0();
        eachPlaceHasItsBit();
        dishOfNoPlace();
        rulesUpToSix();
        newRulesAreBlank();
        ruleNeedsSomething();
        ruleNeedsEachKind();
        oneSparingKindIsEnough();
        oneRuleIsEnough();
        knownDishIsNotTasted();
        knownInOneSearchAlone();
        emptyRecipeIsTasted();
        wholeThatDoesNotSpoil();
        onePlaceIsOver();
        firstPartThatSpoils();
        lastPartThatSpoils();
        partsAreTwoAfterAPart();
        othersAfterAllParts();
        firstOthersThatSpoil();
        lastOthersThatSpoil();
        partsAreOneLessAfterOthers();
        partsAreTwiceAsMany();
        partsAreAtMostThePlaces();
        fullRecipeOfParts();
        oneByOneBeginsLikewise();
        oneByOneFromLastToFirst();
        oneByOneKeepsTheLastPlace();
        keptIsTheLatest();
        keptIsMadeByShrinkAlone();
        keptStaysWhateverBecomes();
        throwingChangesNothing();
        throwingChangesNothingOfANewObject();
        firstNamedException();
        Check.end("TermsEdgeTests");
    }

    // ---- 'What it is'

    // An object is used for at most 512 calls after it has been made.
    private static void shortCallsUpToTheLast() {
        FaultShrinker x = Make.allNeeded(2);
        for (int call = 6; call <= 511; call++) {
            Check.same("shrink() as call " + call, x.shrink(), 3);
        }
        Check.same("count(6) as call 512", x.count(6), 506 * 3);
    }

    // The same, with the dearest searches: what one search knows fills up nothing for the later ones.
    private static void longSearchesUpToTheLastCall() {
        FaultShrinker x = fullOfPairs();
        int tastings = x.would(1);
        for (int call = 43; call <= 505; call++) {
            Check.same("shrink() as call " + call, x.shrink(), tastings);
        }
        Check.same("count(6)", x.count(6), 463 * tastings);
        Check.same("least() behind them", x.least(), 16);
        Check.same("would(4) behind them", x.would(4), 25);
        Check.same("advise() behind them", x.advise(), 0);
        Check.same("would(2) behind them", x.would(2), 12);
        long before = x.digest();
        Check.same("digest() as call 512", x.digest(), before);
    }

    /**
     * 24 places and a rule that needs all 16 kinds. Where it is cut into 16 parts, they have one
     * place and two by turns, and both of the two are of one kind: nothing can be spared till then.
     */
    private static FaultShrinker fullOfPairs() {
        FaultShrinker x = new FaultShrinker();
        for (int kind = 0; kind < 16; kind++) {
            x.add(kind);
            if (kind % 2 == 1) {
                x.add(kind);
            }
        }
        int rule = x.rule();
        for (int kind = 0; kind < 16; kind++) {
            x.setNeeds(rule, kind, true);
        }
        return x;
    }

    // ---- 'Terms': recipes

    // All numbers are whole, and / is cut towards 0. The parts are cut: of 7 places in 4 parts, of 5 in 3.
    private static void divisionIsCut() {
        FaultShrinker x = Make.rowOf(7);
        Make.needing(x, 0, 6);
        Check.same("shrink() of seven", x.shrink(), 13);
        Make.checkKept(x, 0, 6);
        Make.checkSteps(x, new int[][] {
            {7, 2, 3, -1, 127}, {7, 4, 2, 1, 121}, {5, 3, 2, 1, 97}, {3, 2, 3, -1, 97}, {3, 3, 2, 1, 65}});
        FaultShrinker odd = Make.rowOf(3);
        Make.needing(odd, 0);
        odd.shrink();
        Make.checkSteps(odd, new int[][] {{3, 2, 1, 0, 1}});
    }

    // It has at most 24 ingredients (none, at first).
    private static void recipeFromNoneToFull() {
        FaultShrinker x = new FaultShrinker();
        Check.same("places at first", x.count(0), 0);
        for (int places = 1; places <= 24; places++) {
            Check.same("add()", x.add(1), places);
            Check.same("places", x.count(0), places);
        }
        Check.badState("a place 25", () -> x.add(1));
        Check.same("places when full", x.count(0), 24);
        for (int places = 23; places >= 0; places--) {
            x.drop(places);
            Check.same("places left", x.count(0), places);
        }
        Check.same("places can be had again", x.add(2), 1);
    }

    // Each is of a kind, 0 to 15.
    private static void kindsFromFirstToLast() {
        FaultShrinker x = new FaultShrinker();
        for (int kind = 0; kind <= 15; kind++) {
            x.add(kind);
            Check.same("kind " + kind, x.kind(kind), kind);
        }
        Check.outOfBounds("a kind below 0", () -> x.add(-1));
        Check.outOfBounds("a kind above 15", () -> x.add(16));
    }

    // Places are counted from 0.
    private static void placesAreCountedFrom0() {
        FaultShrinker x = Make.recipeOf(9, 8);
        Check.same("the first place", x.kind(0), 9);
        Check.same("the last place", x.kind(1), 8);
        Check.outOfBounds("no place is ahead of it", () -> x.kind(-1));
        Check.outOfBounds("no place is behind it", () -> x.kind(2));
    }

    // A dish is told by bits: 1 for the place 0, 2 for 1, 4 for 2 and so on.
    private static void eachPlaceHasItsBit() {
        FaultShrinker x = Make.rowOf(24);
        Make.needing(x, 0);
        Make.needing(x, 7);
        for (int place = 0; place < 24; place++) {
            boolean due = place % 16 == 0 || place % 16 == 7;
            Check.yes("the bit of place " + place, x.spoils(1 << place) == due);
        }
        Check.yes("the places 1 and 23", x.spoils(2 + (1 << 23)));
        Check.no("the places 1 and 22", x.spoils(2 + (1 << 22)));
    }

    // A dish is made of some of its places: 0 is the dish of none.
    private static void dishOfNoPlace() {
        FaultShrinker x = Make.allNeeded(1);
        Check.no("none of one place", x.spoils(0));
        Check.yes("the one place", x.spoils(1));
        Check.no("none of none", new FaultShrinker().spoils(0));
        Check.no("tight of none", new FaultShrinker().isTight(0));
    }

    // ---- 'Terms': rules

    // At most 6 can be told in all, numbered from 0.
    private static void rulesUpToSix() {
        FaultShrinker x = new FaultShrinker();
        Check.same("rules at first", x.count(1), 0);
        for (int rule = 0; rule < 6; rule++) {
            int next = rule;
            Check.outOfBounds("there is no such rule yet", () -> x.told(next, 0));
            Check.same("the number of the rule", x.rule(), rule);
            Check.same("it needs nothing", x.told(rule, 2), 0);
        }
        Check.badState("a seventh rule", () -> x.rule());
        Check.outOfBounds("there is none", () -> x.told(6, 0));
        Check.no("the last one needs a kind", x.setNeeds(5, 15, true));
        Check.same("it does", x.told(5, 0), 32768);
        Check.same("the one ahead does not", x.told(4, 0), 0);
    }

    // Each has kinds that it needs, and kinds that spare it (none, at first).
    private static void newRulesAreBlank() {
        FaultShrinker x = new FaultShrinker();
        for (int rule = 0; rule < 6; rule++) {
            x.rule();
            Check.same("needs nothing at first", x.told(rule, 0), 0);
            Check.same("nothing spares it at first", x.told(rule, 1), 0);
            Check.no("a kind of it", x.setNeeds(rule, 0, true));
            Check.no("another spares it", x.setSpares(rule, 1, true));
        }
    }

    // A rule holds for a dish, if it needs something.
    private static void ruleNeedsSomething() {
        FaultShrinker x = Make.rowOf(2);
        int rule = x.rule();
        Check.no("without needs, for all", x.spoils(3));
        Check.no("without needs, for none", x.spoils(0));
        Check.same("told(0, 3) without needs", x.told(rule, 3), 0);
        Make.sparing(x, rule, 9);
        Check.no("with what spares alone", x.spoils(3));
        x.setNeeds(rule, 1, true);
        Check.yes("with a kind that it needs", x.spoils(2));
        x.setNeeds(rule, 1, false);
        Check.no("when it needs nothing any more", x.spoils(2));
        Check.same("rules that hold", x.count(2), 0);
        Check.same("least() without needs", x.least(), 0);
    }

    // The dish has each kind that it needs: of all 16 that it can need, none may be missing.
    private static void ruleNeedsEachKind() {
        FaultShrinker x = Make.allNeeded(16);
        Check.yes("all 16", x.spoils(65535));
        for (int place = 0; place < 16; place++) {
            Check.no("all but " + place, x.spoils(65535 - (1 << place)));
        }
        x.add(0);
        Check.yes("one of them twice", x.spoils(131071));
        Check.yes("the later one of them", x.spoils(131070));
    }

    // And none that spares it.
    private static void oneSparingKindIsEnough() {
        FaultShrinker x = Make.rowOf(16);
        int rule = Make.needing(x, 7);
        for (int kind = 0; kind < 16; kind++) {
            if (kind != 7) {
                Make.sparing(x, rule, kind);
            }
        }
        Check.yes("the needed one alone", x.spoils(128));
        for (int place = 0; place < 16; place++) {
            Check.yes("with " + place, x.spoils(128 | 1 << place) == (place == 7));
        }
    }

    // A dish spoils, if some rule holds for it.
    private static void oneRuleIsEnough() {
        FaultShrinker none = Make.rowOf(1);
        Check.no("without rules", none.spoils(1));
        for (int holding = 0; holding < 6; holding++) {
            FaultShrinker x = Make.rowOf(1);
            for (int rule = 0; rule < 6; rule++) {
                Make.needing(x, rule == holding ? 0 : 9);
            }
            Check.yes("of six, the rule " + holding + " holds", x.spoils(1));
            Check.same("one holds", x.count(2), 1);
        }
    }

    // ---- 'Terms': tasting, and the search by halves

    // In one search a dish that was tasted before in it is not tasted again, but known.
    private static void knownDishIsNotTasted() {
        // Of three: all, 0, 1 2, then 1, 2 (0 is known), then 0 2, 0 1 (1 2 is known).
        Check.same("three that are all needed", Make.allNeeded(3).shrink(), 7);
        // Of six in six parts, 0 and 3 were parts of four already, and so were those without them.
        Check.same("six that are all needed", Make.allNeeded(6).shrink(), 19);
        Check.same("16 that are all needed", Make.allNeeded(16).shrink(), 59);
    }

    // The same: known in it, not in the next one.
    private static void knownInOneSearchAlone() {
        FaultShrinker x = Make.allNeeded(3);
        Check.same("a first search", x.shrink(), 7);
        Check.same("a second one tastes anew", x.shrink(), 7);
        Check.same("so does one that would be made", x.would(1), 7);
        Check.same("one by one as well", x.would(4), 4);
        x.setNeeds(0, 1, false);
        x.setNeeds(0, 2, false);
        Check.same("nothing is known of an older rule", x.shrink(), 2);
        x.setNeeds(0, 0, false);
        Check.same("nor of a dish that spoiled", x.shrink(), 1);
        Check.same("no list is left", x.count(3), 0);
    }

    // It begins with the dish of all places, which is tasted (of an empty recipe as well).
    private static void emptyRecipeIsTasted() {
        FaultShrinker x = new FaultShrinker();
        Check.same("would(1) of none", x.would(1), 1);
        Check.same("would(4) of none", x.would(4), 1);
        Check.same("shrink() of none", x.shrink(), 1);
        Make.needing(x, 0);
        Check.same("shrink() of none with a rule", x.shrink(), 1);
        Check.same("count(5) of it", x.count(5), 1);
        Check.same("count(6) of both", x.count(6), 2);
    }

    // If it does not spoil, the search is over, with an empty list.
    private static void wholeThatDoesNotSpoil() {
        FaultShrinker x = Make.rowOf(24);
        int rule = Make.needing(x, 1);
        Make.sparing(x, rule, 0);
        Check.yes("a part of it spoils", x.spoils(2));
        Check.same("shrink() tastes the whole alone", x.shrink(), 1);
        Make.checkKept(x);
        Make.checkSteps(x, new int[][] {});
        Check.same("would(0)", x.would(0), 0);
        Check.same("would(1)", x.would(1), 1);
        Check.same("would(2)", x.would(2), 0);
    }

    // If m is 1, the search is over.
    private static void onePlaceIsOver() {
        FaultShrinker x = Make.allNeeded(1);
        Check.same("shrink() of one place", x.shrink(), 1);
        Make.checkKept(x, 0);
        Make.checkSteps(x, new int[][] {});
        FaultShrinker two = Make.rowOf(2);
        Make.needing(two, 0);
        Check.same("shrink() of two down to one", two.shrink(), 2);
        Make.checkKept(two, 0);
        Make.checkSteps(two, new int[][] {{2, 2, 1, 0, 1}});
    }

    // The parts are looked at, from 0 on: the first one that spoils becomes the dish.
    private static void firstPartThatSpoils() {
        FaultShrinker x = Make.recipeOf(5, 5, 5, 5);
        Make.needing(x, 5);
        Check.same("all parts would do", x.shrink(), 3);
        Make.checkKept(x, 0);
        Make.checkSteps(x, new int[][] {{4, 2, 1, 0, 3}, {2, 2, 1, 0, 1}});
    }

    // The same, where it is the last one.
    private static void lastPartThatSpoils() {
        FaultShrinker x = Make.rowOf(2);
        Make.needing(x, 1);
        Check.same("the last of two", x.shrink(), 3);
        Make.checkKept(x, 1);
        Make.checkSteps(x, new int[][] {{2, 2, 1, 1, 2}});
        // The whole is held by the last rule, the place 3 is spared with 0 to 2 and with 2 alone.
        FaultShrinker y = Make.rowOf(4);
        Make.sparing(y, Make.needing(y, 3), 2);
        Make.needing(y, 0, 1, 2, 3);
        Check.same("the last of four", y.shrink(), 7);
        Make.checkKept(y, 3);
        Make.checkSteps(y, new int[][] {{4, 2, 3, -1, 15}, {4, 4, 1, 3, 8}});
    }

    // And n is 2 then: a step.
    private static void partsAreTwoAfterAPart() {
        FaultShrinker x = Make.rowOf(12);
        Make.sparing(x, Make.needing(x, 3), 0);
        Make.needing(x, 0, 11);
        Check.same("a part of four, then of two", x.shrink(), 6);
        Make.checkKept(x, 3);
        Make.checkSteps(x, new int[][] {{12, 2, 3, -1, 4095}, {12, 4, 1, 1, 56}, {3, 2, 1, 0, 8}});
    }

    // If none does, and n is more than 2: for each part, from 0 on, the dish without it is looked at.
    private static void othersAfterAllParts() {
        // Without the part 0 it would spoil, but the part 3 does, and all parts come first.
        FaultShrinker x = Make.rowOf(4);
        Make.sparing(x, Make.needing(x, 3), 2);
        Make.sparing(x, Make.needing(x, 1, 2, 3), 0);
        Make.needing(x, 0, 1, 2, 3);
        Check.yes("without the part 0", x.spoils(14));
        Check.same("shrink()", x.shrink(), 7);
        Make.checkSteps(x, new int[][] {{4, 2, 3, -1, 15}, {4, 4, 1, 3, 8}});
    }

    // The first such one that spoils becomes the dish.
    private static void firstOthersThatSpoil() {
        FaultShrinker x = Make.rowOf(4);
        Make.needing(x, 0, 3);
        Check.same("without 1 or 2 it would spoil", x.shrink(), 10);
        Make.checkKept(x, 0, 3);
        Make.checkSteps(x, new int[][] {{4, 2, 3, -1, 15}, {4, 4, 2, 1, 13}, {3, 3, 2, 1, 9}});
    }

    // The same, where it is the last one.
    private static void lastOthersThatSpoil() {
        FaultShrinker x = Make.rowOf(4);
        Make.needing(x, 0, 1, 2);
        Check.same("without 3 alone it spoils", x.shrink(), 13);
        Make.checkKept(x, 0, 1, 2);
        Make.checkSteps(x, new int[][] {{4, 2, 3, -1, 15}, {4, 4, 2, 3, 7}});
    }

    // And n is 1 less (at least 2): a step.
    private static void partsAreOneLessAfterOthers() {
        FaultShrinker x = Make.rowOf(8);
        Make.needing(x, 0, 7);
        Check.same("eight down to two", x.shrink(), 17);
        Make.checkSteps(x, new int[][] {
            {8, 2, 3, -1, 255}, {8, 4, 2, 1, 243}, {6, 3, 2, 1, 195}, {4, 2, 3, -1, 195},
            {4, 4, 2, 1, 193}, {3, 3, 2, 1, 129}});
    }

    // If none does, and n is less than m: n is twice as many: a step, too.
    private static void partsAreTwiceAsMany() {
        FaultShrinker x = Make.allNeeded(16);
        x.shrink();
        Make.checkSteps(x, new int[][] {{16, 2, 3, -1, 65535}, {16, 4, 3, -1, 65535}, {16, 8, 3, -1, 65535}});
        FaultShrinker y = Make.allNeeded(4);
        Check.same("twice as many as m at once", y.shrink(), 11);
        Make.checkSteps(y, new int[][] {{4, 2, 3, -1, 15}});
    }

    // At most m. Otherwise the search is over.
    private static void partsAreAtMostThePlaces() {
        FaultShrinker two = Make.allNeeded(2);
        Check.same("two in two parts", two.shrink(), 3);
        Make.checkSteps(two, new int[][] {});
        FaultShrinker three = Make.allNeeded(3);
        three.shrink();
        Make.checkSteps(three, new int[][] {{3, 2, 3, -1, 7}});
        FaultShrinker six = Make.allNeeded(6);
        six.shrink();
        Make.checkSteps(six, new int[][] {{6, 2, 3, -1, 63}, {6, 4, 3, -1, 63}});
        FaultShrinker seven = Make.allNeeded(7);
        Check.same("seven in seven parts", seven.shrink(), 23);
        Make.checkSteps(seven, new int[][] {{7, 2, 3, -1, 127}, {7, 4, 3, -1, 127}});
    }

    // The same of a full recipe: 2, 4, 8, 16 and at most 24 parts; then one of each pair is spared.
    private static void fullRecipeOfParts() {
        FaultShrinker x = fullOfPairs();
        x.shrink();
        int all = (1 << 24) - 1;
        int[][] due = new int[12][];
        for (int step = 0; step < 4; step++) {
            due[step] = new int[] {24, 2 << step, 3, -1, all};
        }
        int left = all;
        for (int pair = 0; pair < 8; pair++) {
            left -= 1 << (3 * pair + 1);
            due[4 + pair] = new int[] {24 - pair, 24 - pair, 2, 2 * pair + 1, left};
        }
        Make.checkSteps(x, due);
        Make.checkKept(x, 0, 2, 3, 5, 6, 8, 9, 11, 12, 14, 15, 17, 18, 20, 21, 23);
    }

    // ---- 'Terms': the search one by one

    // The search one by one begins likewise: the whole is tasted, and is all, if it does not spoil.
    private static void oneByOneBeginsLikewise() {
        FaultShrinker x = Make.rowOf(3);
        Make.sparing(x, Make.needing(x, 1), 2);
        Check.same("would(3) where the whole does not spoil", x.would(3), 0);
        Check.same("would(4) there", x.would(4), 1);
        FaultShrinker empty = new FaultShrinker();
        Check.same("would(3) of none", empty.would(3), 0);
        Check.same("would(4) of none", empty.would(4), 1);
    }

    // Then, for each place from the last one down to the first one, the dish without it is looked at.
    private static void oneByOneFromLastToFirst() {
        FaultShrinker x = Make.rowOf(3);
        Make.needing(x, 0, 1);
        Make.needing(x, 1, 2);
        Check.same("the last one is spared, not the first", x.would(3), 3);
        Check.same("each is looked at", x.would(4), 4);
        FaultShrinker y = Make.rowOf(16);
        Make.needing(y, 1, 14);
        Check.same("the last one and the first one are spared", y.would(3), 2 + (1 << 14));
        Check.same("each of 16 is looked at", y.would(4), 17);
        FaultShrinker full = Make.rowOf(24);
        Make.needing(full, 7);
        Check.same("of 24 the first 7 is left", full.would(3), 128);
        Check.same("each of 24 is looked at", full.would(4), 25);
    }

    // If it has others as well.
    private static void oneByOneKeepsTheLastPlace() {
        FaultShrinker one = Make.allNeeded(1);
        Check.same("would(3) of one place", one.would(3), 1);
        Check.same("would(4) of one place", one.would(4), 1);
        FaultShrinker x = Make.recipeOf(5, 5, 5);
        Make.needing(x, 5);
        Check.same("the first is left", x.would(3), 1);
        Check.same("it is not looked at without it", x.would(4), 3);
        FaultShrinker two = Make.rowOf(2);
        Make.needing(two, 1);
        Check.same("the last is left", two.would(3), 2);
        Check.same("the first was looked at", two.would(4), 3);
    }

    // ---- 'Terms': the kept search

    // A kept search: the latest one by halves that was made by shrink().
    private static void keptIsTheLatest() {
        FaultShrinker x = Make.rowOf(4);
        Make.needing(x, 0, 3);
        x.shrink();
        x.drop(0);
        x.setNeeds(0, 0, false);
        Check.same("a shorter search", x.shrink(), 5);
        Make.checkKept(x, 2);
        Make.checkSteps(x, new int[][] {{3, 2, 1, 1, 6}, {2, 2, 1, 1, 4}});
        x.drop(2);
        Check.same("one where nothing spoils", x.shrink(), 1);
        Make.checkKept(x);
        Make.checkSteps(x, new int[][] {});
    }

    // The same: other searches are not kept.
    private static void keptIsMadeByShrinkAlone() {
        FaultShrinker x = Make.rowOf(4);
        Make.needing(x, 0, 3);
        for (int what = 0; what < 5; what++) {
            x.would(what);
        }
        x.advise();
        x.least();
        x.digest();
        Make.checkKept(x);
        Make.checkSteps(x, new int[][] {});
        Check.same("told(0, 4)", x.told(0, 4), 0);
        Check.same("count(5)", x.count(5), 0);
        Check.same("count(6)", x.count(6), 0);
    }

    // It stays as it was, whatever becomes of recipe and rules.
    private static void keptStaysWhateverBecomes() {
        FaultShrinker x = Make.rowOf(4);
        Make.needing(x, 0, 3);
        x.shrink();
        for (int left = 4; left > 0; left--) {
            x.drop(0);
        }
        keptIsStill(x, "the recipe is empty");
        for (int place = 0; place < 24; place++) {
            x.add(9);
        }
        keptIsStill(x, "it is full");
        x.setNeeds(0, 0, false);
        x.setNeeds(0, 3, false);
        Make.sparing(x, 0, 0, 3);
        Make.needing(x, 9);
        keptIsStill(x, "the rules are others");
        x.would(0);
        x.would(3);
        x.advise();
        x.digest();
        keptIsStill(x, "other searches were made");
    }

    private static void keptIsStill(FaultShrinker x, String when) {
        Check.same("count(5) when " + when, x.count(5), 10);
        Make.checkKept(x, 0, 3);
        Make.checkSteps(x, new int[][] {{4, 2, 3, -1, 15}, {4, 4, 2, 1, 13}, {3, 3, 2, 1, 9}});
    }

    // ---- 'Terms': exceptions

    /** A call that is refused. */
    private interface Refused {
        void on(FaultShrinker x);
    }

    /** As full as it can be, with a kept search: whatever changed would be told. */
    private static FaultShrinker full() {
        FaultShrinker x = Make.rowOf(24);
        Make.sparing(x, Make.needing(x, 7), 4);
        for (int rule = 1; rule < 5; rule++) {
            Make.sparing(x, Make.needing(x, 2 * rule, 15), 3);
        }
        Make.needing(x, 10, 15);
        x.shrink();
        return x;
    }

    // A method that throws an exception changes nothing.
    private static void throwingChangesNothing() {
        Check.yes("there is a list", full().count(3) > 0);
        Check.yes("there are steps", full().count(4) > 0);
        refusedState("add(0) to 24", x -> x.add(0));
        for (int far : new int[] {-1, 16, Make.MIN, Make.MAX}) {
            refusedBounds("add(" + far + ")", x -> x.add(far));
            refusedBounds("setNeeds(0, " + far + ", true)", x -> x.setNeeds(0, far, true));
            refusedBounds("setNeeds(0, " + far + ", false)", x -> x.setNeeds(0, far, false));
            refusedBounds("setSpares(0, " + far + ", true)", x -> x.setSpares(0, far, true));
            refusedBounds("setSpares(0, " + far + ", false)", x -> x.setSpares(0, far, false));
        }
        for (int far : new int[] {-1, 24, Make.MIN, Make.MAX}) {
            refusedBounds("drop(" + far + ")", x -> x.drop(far));
            refusedBounds("kind(" + far + ")", x -> x.kind(far));
            refusedBounds("setNeeds(" + far + ", 1, true)", x -> x.setNeeds(far, 1, true));
            refusedBounds("setSpares(" + far + ", 1, true)", x -> x.setSpares(far, 1, true));
            refusedBounds("told(" + far + ", 0)", x -> x.told(far, 0));
            refusedBounds("told(0, " + far + ")", x -> x.told(0, far));
            refusedBounds("kept(" + far + ")", x -> x.kept(far));
            refusedBounds("step(" + far + ", 0)", x -> x.step(far, 0));
            refusedBounds("step(0, " + far + ")", x -> x.step(0, far));
            refusedBounds("count(" + far + ")", x -> x.count(far));
            refusedBounds("would(" + far + ")", x -> x.would(far));
        }
        refusedState("rule()", x -> x.rule());
        refusedState("setNeeds(0, 4, true)", x -> x.setNeeds(0, 4, true));
        refusedState("setSpares(0, 7, true)", x -> x.setSpares(0, 7, true));
        for (int dish : new int[] {-1, 1 << 24, Make.MIN, Make.MAX}) {
            refusedArgument("spoils(" + dish + ")", x -> x.spoils(dish));
            refusedArgument("isTight(" + dish + ")", x -> x.isTight(dish));
        }
    }

    private static void refusedBounds(String what, Refused call) {
        FaultShrinker x = full();
        String before = Make.stateOf(x);
        Check.outOfBounds(what, () -> call.on(x));
        Check.same("all behind " + what, Make.stateOf(x), before);
    }

    private static void refusedState(String what, Refused call) {
        FaultShrinker x = full();
        String before = Make.stateOf(x);
        Check.badState(what, () -> call.on(x));
        Check.same("all behind " + what, Make.stateOf(x), before);
    }

    private static void refusedArgument(String what, Refused call) {
        FaultShrinker x = full();
        String before = Make.stateOf(x);
        Check.badArgument(what, () -> call.on(x));
        Check.same("all behind " + what, Make.stateOf(x), before);
    }

    // The same of an object that has nothing yet.
    private static void throwingChangesNothingOfANewObject() {
        FaultShrinker x = new FaultShrinker();
        String before = Make.stateOf(x);
        Check.outOfBounds("add(16)", () -> x.add(16));
        Check.outOfBounds("drop(0)", () -> x.drop(0));
        Check.outOfBounds("kind(0)", () -> x.kind(0));
        Check.outOfBounds("setNeeds(0, 0, true)", () -> x.setNeeds(0, 0, true));
        Check.outOfBounds("setSpares(0, 0, true)", () -> x.setSpares(0, 0, true));
        Check.outOfBounds("told(0, 0)", () -> x.told(0, 0));
        Check.badArgument("spoils(1)", () -> x.spoils(1));
        Check.outOfBounds("kept(0)", () -> x.kept(0));
        Check.outOfBounds("step(0, 0)", () -> x.step(0, 0));
        Check.outOfBounds("count(7)", () -> x.count(7));
        Check.outOfBounds("would(5)", () -> x.would(5));
        Check.badArgument("isTight(1)", () -> x.isTight(1));
        Check.same("all behind them", Make.stateOf(x), before);
        x.add(3);
        x.rule();
        Check.same("a rule is blank", x.told(0, 0) + x.told(0, 1), 0);
    }

    // If several exceptions apply, the one that is named first is thrown.
    private static void firstNamedException() {
        FaultShrinker x = full();
        for (int kind : new int[] {-1, 16, Make.MIN, Make.MAX}) {
            Check.outOfBounds("add(" + kind + ") to 24", () -> x.add(kind));
        }
        // Cut to their last four or five bits, these are kinds that spare, or that are needed.
        for (int kind : new int[] {4 + 16, 4 + 32, 4 - 32, 4 - 16}) {
            Check.outOfBounds("setNeeds(0, " + kind + ", true)", () -> x.setNeeds(0, kind, true));
        }
        for (int kind : new int[] {7 + 16, 7 + 32, 7 - 32, 7 - 16}) {
            Check.outOfBounds("setSpares(0, " + kind + ", true)", () -> x.setSpares(0, kind, true));
        }
        Check.outOfBounds("setNeeds(6, 4, true)", () -> x.setNeeds(6, 4, true));
        Check.outOfBounds("setSpares(6, 7, true)", () -> x.setSpares(6, 7, true));
    }
}
