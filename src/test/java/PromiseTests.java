/** Each promise of the document with ordinary inputs, its edges and wrong inputs; worked out by hand. */
public final class PromiseTests {
    private PromiseTests() {
    }

    public static void main(String[] args) {
        newObject();
        add();
        drop();
        kind();
        rule();
        setNeeds();
        setSpares();
        told();
        toldOfTheKeptSearch();
        spoils();
        shrinkByComplements();
        shrinkByParts();
        shrinkWithUnevenParts();
        shrinkAtTheEdges();
        kept();
        keptStays();
        step();
        count();
        would();
        wouldOneByOne();
        least();
        isTight();
        advise();
        mean();
        digest();
        digestOfASearch();
        throwingChangesNothing();
        Check.end("PromiseTests");
    }

    // ---- promise 1

    private static void newObject() {
        FaultShrinker x = new FaultShrinker();
        for (int what = 0; what <= 6; what++) {
            Check.same("new: count(" + what + ")", x.count(what), 0);
        }
        Check.outOfBounds("new: kind(0)", () -> x.kind(0));
        Check.outOfBounds("new: told(0, 0)", () -> x.told(0, 0));
        Check.outOfBounds("new: kept(0)", () -> x.kept(0));
        Check.outOfBounds("new: step(0, 0)", () -> x.step(0, 0));
        Check.no("new: spoils(0)", x.spoils(0));
        FaultShrinker other = new FaultShrinker();
        other.add(3);
        other.rule();
        Check.same("objects share no recipe", x.count(0), 0);
        Check.same("objects share no rules", x.count(1), 0);
    }

    // ---- promises 2 to 4

    private static void add() {
        FaultShrinker x = new FaultShrinker();
        Check.same("add(0)", x.add(0), 1);
        Check.same("add(15)", x.add(15), 2);
        Check.same("add of a kind again", x.add(15), 3);
        Check.same("kind(0)", x.kind(0), 0);
        Check.same("kind(2)", x.kind(2), 15);
        for (int kind : new int[] {-1, 16, Make.MIN, Make.MAX}) {
            Check.outOfBounds("add(" + kind + ")", () -> x.add(kind));
        }
        for (int places = 4; places <= 24; places++) {
            Check.same("add to " + places, x.add(places % 16), places);
        }
        Check.badState("add to 24", () -> x.add(0));
        Check.outOfBounds("add of no kind to 24", () -> x.add(16));
        Check.same("24 places", x.count(0), 24);
        x.drop(3);
        Check.same("add where one was dropped", x.add(9), 24);
        Check.same("it is the last", x.kind(23), 9);
    }

    private static void drop() {
        FaultShrinker x = Make.recipeOf(5, 6, 7, 8);
        for (int place : new int[] {-1, 4, Make.MIN, Make.MAX}) {
            Check.outOfBounds("drop(" + place + ")", () -> x.drop(place));
        }
        Check.same("drop(1)", x.drop(1), 6);
        Check.same("the one ahead stays", x.kind(0), 5);
        Check.same("the next moves up", x.kind(1), 7);
        Check.same("the last moves up", x.kind(2), 8);
        Check.outOfBounds("drop(3) of three", () -> x.drop(3));
        Check.same("drop of the last", x.drop(2), 8);
        Check.same("drop of the first", x.drop(0), 5);
        Check.same("drop of the only one", x.drop(0), 7);
        Check.same("none is left", x.count(0), 0);
        Check.outOfBounds("drop of none", () -> x.drop(0));
        FaultShrinker full = new FaultShrinker();
        for (int place = 0; place < 24; place++) {
            full.add(place % 16);
        }
        Check.same("drop(0) of 24", full.drop(0), 0);
        Check.same("all move up", full.kind(22), 7);
        Check.outOfBounds("place 23 is gone", () -> full.kind(23));
    }

    private static void kind() {
        FaultShrinker x = Make.recipeOf(4, 0, 15);
        Check.same("kind(0)", x.kind(0), 4);
        Check.same("kind(1)", x.kind(1), 0);
        Check.same("kind(2)", x.kind(2), 15);
        for (int place : new int[] {-1, 3, 23, 24, Make.MIN, Make.MAX}) {
            Check.outOfBounds("kind(" + place + ")", () -> x.kind(place));
        }
    }

    // ---- promises 5 to 9

    private static void rule() {
        FaultShrinker x = new FaultShrinker();
        for (int rule = 0; rule < 6; rule++) {
            Check.same("rule()", x.rule(), rule);
            Check.same("rules", x.count(1), rule + 1);
            Check.same("a new rule needs nothing", x.told(rule, 0), 0);
            Check.same("nothing spares a new rule", x.told(rule, 1), 0);
        }
        Check.badState("a seventh rule()", () -> x.rule());
        Check.same("six rules", x.count(1), 6);
    }

    private static void setNeeds() {
        FaultShrinker x = new FaultShrinker();
        Check.outOfBounds("setNeeds without a rule", () -> x.setNeeds(0, 0, true));
        x.rule();
        x.rule();
        Check.no("it needed 3", x.setNeeds(0, 3, true));
        Check.yes("it needed 3, again", x.setNeeds(0, 3, true));
        Check.same("it needs 3", x.told(0, 0), 8);
        Check.same("the other rule needs nothing", x.told(1, 0), 0);
        Check.no("it needed 15", x.setNeeds(0, 15, true));
        Check.no("it needed 0", x.setNeeds(0, 0, false));
        Check.same("it needs 3 and 15", x.told(0, 0), 8 + 32768);
        Check.yes("it needed 3 until now", x.setNeeds(0, 3, false));
        Check.no("it needed 3 no more", x.setNeeds(0, 3, false));
        Check.same("it needs 15", x.told(0, 0), 32768);
        for (int rule : new int[] {-1, 2, 6, Make.MIN, Make.MAX}) {
            Check.outOfBounds("setNeeds of rule " + rule, () -> x.setNeeds(rule, 0, true));
        }
        for (int kind : new int[] {-1, 16, Make.MIN, Make.MAX}) {
            Check.outOfBounds("setNeeds of kind " + kind, () -> x.setNeeds(0, kind, false));
        }
        x.setSpares(0, 7, true);
        Check.badState("setNeeds of what spares", () -> x.setNeeds(0, 7, true));
        Check.no("false is no fault there", x.setNeeds(0, 7, false));
        Check.same("it is spared still", x.told(0, 1), 128);
        Check.no("another rule may need it", x.setNeeds(1, 7, true));
        x.setSpares(0, 7, false);
        Check.no("nor is it when it spares no more", x.setNeeds(0, 7, true));
    }

    private static void setSpares() {
        FaultShrinker x = new FaultShrinker();
        Check.outOfBounds("setSpares without a rule", () -> x.setSpares(0, 0, true));
        x.rule();
        x.rule();
        Check.no("3 spared it", x.setSpares(1, 3, true));
        Check.yes("3 spared it, again", x.setSpares(1, 3, true));
        Check.no("15 spared it", x.setSpares(1, 15, true));
        Check.same("3 and 15 spare it", x.told(1, 1), 8 + 32768);
        Check.same("nothing spares the other rule", x.told(0, 1), 0);
        Check.yes("3 spared it until now", x.setSpares(1, 3, false));
        Check.no("3 spared it no more", x.setSpares(1, 3, false));
        Check.same("15 spares it", x.told(1, 1), 32768);
        for (int rule : new int[] {-1, 2, 6, Make.MIN, Make.MAX}) {
            Check.outOfBounds("setSpares of rule " + rule, () -> x.setSpares(rule, 0, true));
        }
        for (int kind : new int[] {-1, 16, Make.MIN, Make.MAX}) {
            Check.outOfBounds("setSpares of kind " + kind, () -> x.setSpares(1, kind, false));
        }
        x.setNeeds(1, 7, true);
        Check.badState("setSpares of what it needs", () -> x.setSpares(1, 7, true));
        Check.no("false is no fault there", x.setSpares(1, 7, false));
        Check.same("it is needed still", x.told(1, 0), 128);
        Check.no("it may spare another rule", x.setSpares(0, 7, true));
        x.setNeeds(1, 7, false);
        Check.no("nor is it when it needs it no more", x.setSpares(1, 7, true));
    }

    private static void told() {
        FaultShrinker x = Make.recipeOf(1, 2, 3);
        Make.needing(x, 1, 3);
        x.setSpares(0, 4, true);
        x.setSpares(0, 0, true);
        Check.same("told(0, 0)", x.told(0, 0), 2 + 8);
        Check.same("told(0, 1)", x.told(0, 1), 1 + 16);
        Check.same("told(0, 2)", x.told(0, 2), 2);
        Check.same("told(0, 3)", x.told(0, 3), 1);
        Check.same("told(0, 4) without a kept search", x.told(0, 4), 0);
        x.add(4);
        Check.same("told(0, 3) with what spares it", x.told(0, 3), 0);
        x.drop(3);
        x.drop(0);
        Check.same("told(0, 3) without what it needs", x.told(0, 3), 0);
        x.rule();
        Check.same("told(1, 3) of a rule that needs nothing", x.told(1, 3), 0);
        Check.same("told(1, 2) of it", x.told(1, 2), 0);
        Check.outOfBounds("told(-1, 0)", () -> x.told(-1, 0));
        Check.outOfBounds("told(2, 0)", () -> x.told(2, 0));
        for (int what : new int[] {-1, 5, Make.MIN, Make.MAX}) {
            Check.outOfBounds("told(0, " + what + ")", () -> x.told(0, what));
        }
    }

    private static void toldOfTheKeptSearch() {
        FaultShrinker x = Make.recipeOf(9, 1, 9, 2);
        Make.needing(x, 1, 2);
        x.shrink();
        Make.checkKept(x, 1, 3);
        Check.same("told(0, 4)", x.told(0, 4), 1);
        x.drop(1);
        x.drop(0);
        Check.same("told(0, 3) of the recipe now", x.told(0, 3), 0);
        Check.same("told(0, 4) of the recipe then", x.told(0, 4), 1);
        x.setNeeds(0, 9, true);
        Check.same("told(0, 4) of the rule now: 9 was not in the list", x.told(0, 4), 0);
        x.setNeeds(0, 9, false);
        x.setSpares(0, 9, true);
        Check.same("told(0, 4) spared by what was not in the list", x.told(0, 4), 1);
        x.setNeeds(0, 1, false);
        x.setSpares(0, 1, true);
        Check.same("told(0, 4) spared by what was in it", x.told(0, 4), 0);
        Make.needing(x, 2);
        Check.same("told(1, 4) of a later rule", x.told(1, 4), 1);
        x.drop(1);
        x.shrink();
        Check.same("told(1, 4) after an empty list", x.told(1, 4), 0);
    }

    private static void spoils() {
        FaultShrinker x = Make.recipeOf(1, 2, 1, 3);
        Check.no("without rules", x.spoils(15));
        Make.needing(x, 1, 3);
        Check.yes("all of them", x.spoils(15));
        Check.yes("the places 0 and 3", x.spoils(9));
        Check.yes("the places 2 and 3", x.spoils(12));
        Check.no("the places 0 to 2", x.spoils(7));
        Check.no("none of them", x.spoils(0));
        x.setSpares(0, 2, true);
        Check.no("all of them, spared", x.spoils(15));
        Check.yes("the places 0, 2 and 3", x.spoils(13));
        Make.needing(x, 2);
        Check.yes("another rule holds", x.spoils(2));
        x.rule();
        Check.no("a rule that needs nothing holds for none", x.spoils(1));
        x.setSpares(2, 9, true);
        Check.no("nor if something spares it", x.spoils(1));
        for (int dish : new int[] {-1, 16, 31, 1 << 24, Make.MIN, Make.MAX}) {
            Check.badArgument("spoils(" + dish + ")", () -> x.spoils(dish));
        }
        Check.same("spoils is no tasting", x.count(6), 0);
        FaultShrinker full = new FaultShrinker();
        for (int place = 0; place < 24; place++) {
            full.add(place % 16);
        }
        Make.needing(full, 7);
        Check.yes("24 places", full.spoils((1 << 24) - 1));
        Check.yes("the last place", full.spoils(1 << 23));
        Check.badArgument("a 25th place", () -> full.spoils(1 << 24));
    }

    // ---- promises 10 to 13

    private static void shrinkByComplements() {
        FaultShrinker x = Make.rowOf(8);
        Make.needing(x, 2, 7);
        Check.same("shrink()", x.shrink(), 16);
        Make.checkKept(x, 2, 7);
        Make.checkSteps(x, new int[][] {
            {8, 2, 3, -1, 255}, {8, 4, 2, 0, 252}, {6, 3, 2, 1, 204},
            {4, 2, 3, -1, 204}, {4, 4, 2, 1, 196}, {3, 3, 2, 1, 132}});
        Check.same("a second search knows nothing of the first", x.shrink(), 16);
        Check.same("tastings of both", x.count(6), 32);
    }

    private static void shrinkByParts() {
        FaultShrinker x = Make.rowOf(8);
        Make.needing(x, 2);
        x.setSpares(0, 0, true);
        Make.needing(x, 0, 7);
        Check.same("shrink() with a part of four", x.shrink(), 6);
        Make.checkKept(x, 2);
        Make.checkSteps(x, new int[][] {{8, 2, 3, -1, 255}, {8, 4, 1, 1, 12}, {2, 2, 1, 0, 4}});
        FaultShrinker y = Make.rowOf(8);
        Make.needing(y, 6);
        Check.same("shrink() by parts of two", y.shrink(), 6);
        Make.checkSteps(y, new int[][] {{8, 2, 1, 1, 240}, {4, 2, 1, 1, 192}, {2, 2, 1, 0, 64}});
    }

    private static void shrinkWithUnevenParts() {
        FaultShrinker x = Make.rowOf(5);
        Make.needing(x, 0, 1, 2, 3, 4);
        Check.same("shrink() of five that are all needed", x.shrink(), 15);
        Make.checkKept(x, 0, 1, 2, 3, 4);
        Make.checkSteps(x, new int[][] {{5, 2, 3, -1, 31}, {5, 4, 3, -1, 31}});
        FaultShrinker y = Make.rowOf(3);
        Make.needing(y, 1);
        Check.same("shrink() of three: the cut is behind the first", y.shrink(), 4);
        Make.checkSteps(y, new int[][] {{3, 2, 1, 1, 6}, {2, 2, 1, 0, 2}});
    }

    private static void shrinkAtTheEdges() {
        FaultShrinker empty = new FaultShrinker();
        Check.same("shrink() of an empty recipe", empty.shrink(), 1);
        Make.checkKept(empty);
        FaultShrinker x = Make.rowOf(3);
        Make.needing(x, 9);
        Check.same("shrink() where nothing spoils", x.shrink(), 1);
        Make.checkKept(x);
        Make.checkSteps(x, new int[][] {});
        FaultShrinker one = Make.recipeOf(9);
        Make.needing(one, 9);
        Check.same("shrink() of one place", one.shrink(), 1);
        Make.checkKept(one, 0);
        FaultShrinker two = Make.recipeOf(9, 8);
        Make.needing(two, 8, 9);
        Check.same("shrink() of two that are both needed", two.shrink(), 3);
        Make.checkKept(two, 0, 1);
        Make.checkSteps(two, new int[][] {});
        FaultShrinker same = Make.recipeOf(9, 9);
        Make.needing(same, 9);
        Check.same("shrink() takes the first part that spoils", same.shrink(), 2);
        Make.checkKept(same, 0);
    }

    private static void kept() {
        FaultShrinker x = Make.rowOf(6);
        Check.outOfBounds("kept(0) without a kept search", () -> x.kept(0));
        Make.needing(x, 1, 4, 5);
        x.would(0);
        x.advise();
        Check.outOfBounds("kept(0) after searches that are not kept", () -> x.kept(0));
        x.shrink();
        Make.checkKept(x, 1, 4, 5);
        for (int place : new int[] {3, 24, Make.MIN, Make.MAX}) {
            Check.outOfBounds("kept(" + place + ")", () -> x.kept(place));
        }
    }

    private static void keptStays() {
        FaultShrinker x = Make.rowOf(8);
        Make.needing(x, 2, 7);
        x.shrink();
        x.drop(7);
        x.drop(0);
        x.add(11);
        x.setNeeds(0, 2, false);
        Make.needing(x, 3);
        for (int what = 0; what < 5; what++) {
            x.would(what);
        }
        x.advise();
        x.digest();
        Make.checkKept(x, 2, 7);
        Make.checkSteps(x, new int[][] {
            {8, 2, 3, -1, 255}, {8, 4, 2, 0, 252}, {6, 3, 2, 1, 204},
            {4, 2, 3, -1, 204}, {4, 4, 2, 1, 196}, {3, 3, 2, 1, 132}});
        Check.same("its tastings", x.count(5), 16);
        x.setNeeds(1, 3, false);
        x.setNeeds(0, 7, false);
        Check.same("shrink() where nothing spoils any more", x.shrink(), 1);
        Make.checkKept(x);
        Check.same("it has no steps", x.count(4), 0);
        Check.outOfBounds("step(0, 0) of it", () -> x.step(0, 0));
    }

    private static void step() {
        FaultShrinker x = Make.rowOf(8);
        Make.needing(x, 2, 7);
        Check.outOfBounds("step(0, 0) without a kept search", () -> x.step(0, 0));
        x.would(2);
        Check.outOfBounds("step(0, 0) after a search that is not kept", () -> x.step(0, 0));
        x.shrink();
        Check.same("step(5, 4)", x.step(5, 4), 132);
        for (int step : new int[] {-1, 6, 127, 128, Make.MIN, Make.MAX}) {
            Check.outOfBounds("step(" + step + ", 0)", () -> x.step(step, 0));
        }
        for (int what : new int[] {-1, 5, Make.MIN, Make.MAX}) {
            Check.outOfBounds("step(0, " + what + ")", () -> x.step(0, what));
        }
    }

    private static void count() {
        FaultShrinker x = Make.rowOf(8);
        Make.needing(x, 2, 7);
        Make.needing(x, 9);
        Make.needing(x, 1);
        x.rule();
        Check.same("count(0)", x.count(0), 8);
        Check.same("count(1)", x.count(1), 4);
        Check.same("count(2)", x.count(2), 2);
        for (int what = 3; what <= 6; what++) {
            Check.same("without a kept search: count(" + what + ")", x.count(what), 0);
        }
        x.setNeeds(2, 1, false);
        x.would(1);
        x.advise();
        Check.same("no search was kept: count(6)", x.count(6), 0);
        x.shrink();
        Check.same("count(3)", x.count(3), 2);
        Check.same("count(4)", x.count(4), 6);
        Check.same("count(5)", x.count(5), 16);
        x.setNeeds(0, 9, true);
        x.shrink();
        Check.same("count(5) of the latest", x.count(5), 1);
        Check.same("count(6) of both", x.count(6), 17);
        for (int what : new int[] {-1, 7, Make.MIN, Make.MAX}) {
            Check.outOfBounds("count(" + what + ")", () -> x.count(what));
        }
    }

    // ---- promises 14 to 18

    private static void would() {
        FaultShrinker x = Make.rowOf(8);
        Make.needing(x, 2, 7);
        Check.same("would(0)", x.would(0), 132);
        Check.same("would(1)", x.would(1), 16);
        Check.same("would(2)", x.would(2), 6);
        Check.same("would(3)", x.would(3), 132);
        Check.same("would(4)", x.would(4), 9);
        Check.same("nothing is kept", x.count(5), 0);
        x.setNeeds(0, 9, true);
        Check.same("would(0) where nothing spoils", x.would(0), 0);
        Check.same("would(1) there", x.would(1), 1);
        Check.same("would(2) there", x.would(2), 0);
        Check.same("would(3) there", x.would(3), 0);
        Check.same("would(4) there", x.would(4), 1);
        for (int what : new int[] {-1, 5, Make.MIN, Make.MAX}) {
            Check.outOfBounds("would(" + what + ")", () -> x.would(what));
        }
        FaultShrinker empty = new FaultShrinker();
        Check.same("would(0) of an empty recipe", empty.would(0), 0);
        Check.same("would(1) of it", empty.would(1), 1);
        Check.same("would(2) of it", empty.would(2), 0);
        Check.same("would(3) of it", empty.would(3), 0);
        Check.same("would(4) of it", empty.would(4), 1);
    }

    private static void wouldOneByOne() {
        FaultShrinker x = Make.rowOf(3);
        Make.needing(x, 0, 1);
        Make.needing(x, 2);
        Check.same("halves find the last", x.would(0), 4);
        Check.same("with tastings", x.would(1), 5);
        Check.same("in steps", x.would(2), 2);
        Check.same("one by one spares the last first", x.would(3), 3);
        Check.same("with tastings", x.would(4), 4);
        FaultShrinker y = Make.rowOf(3);
        Make.needing(y, 0);
        Check.same("the only one left is not spared", y.would(3), 1);
        Check.same("nor is it looked at without it", y.would(4), 3);
        FaultShrinker one = Make.recipeOf(4);
        Make.needing(one, 4);
        Check.same("one place", one.would(3), 1);
        Check.same("one tasting", one.would(4), 1);
        FaultShrinker full = new FaultShrinker();
        for (int place = 0; place < 24; place++) {
            full.add(place < 23 ? place % 15 : 15);
        }
        Make.needing(full, 15);
        Check.same("the last of 24", full.would(3), 1 << 23);
        Check.same("each is looked at once", full.would(4), 25);
    }

    private static void least() {
        FaultShrinker x = Make.recipeOf(1, 1, 2, 3);
        Check.same("least() without rules", x.least(), 0);
        Make.needing(x, 1, 2, 3);
        Check.same("least() of three kinds", x.least(), 3);
        Make.needing(x, 1, 3);
        Check.same("least() of two", x.least(), 2);
        Make.needing(x, 9);
        Check.same("least() is not of what there is not", x.least(), 2);
        x.rule();
        Check.same("least() is not of a rule that needs nothing", x.least(), 2);
        x.setSpares(1, 2, true);
        Check.no("rule 1 does not hold for all", x.told(1, 3) == 1);
        Check.same("least() of what could be spared", x.least(), 2);
        x.setSpares(0, 9, true);
        x.drop(3);
        Check.same("least() if none spoils", x.least(), 0);
        x.add(9);
        Check.same("least() of one", x.least(), 1);
        FaultShrinker y = Make.recipeOf(1, 2, 3);
        Make.needing(y, 1);
        y.setSpares(0, 2, true);
        Check.same("nothing to shrink", y.would(1), 1);
        Check.same("least() all the same", y.least(), 1);
    }

    private static void isTight() {
        FaultShrinker x = Make.recipeOf(1, 2, 1, 3);
        Make.needing(x, 1, 2);
        Check.yes("the places 0 and 1", x.isTight(3));
        Check.yes("the places 1 and 2", x.isTight(6));
        Check.no("either of two is spared", x.isTight(7));
        Check.no("the last is spared", x.isTight(11));
        Check.no("it does not spoil", x.isTight(5));
        Check.no("nothing", x.isTight(0));
        Make.needing(x, 3);
        Check.yes("one place", x.isTight(8));
        Check.no("the first can be spared", x.isTight(9));
        x.setSpares(1, 1, true);
        Check.no("it is spared by 1", x.isTight(9));
        Check.no("0 and 1 can be spared, each", x.isTight(11));
        for (int dish : new int[] {-1, 16, 1 << 24, Make.MIN, Make.MAX}) {
            Check.badArgument("isTight(" + dish + ")", () -> x.isTight(dish));
        }
        FaultShrinker y = Make.recipeOf(1, 2, 3, 4);
        Make.needing(y, 1, 2);
        y.setSpares(0, 4, true);
        Make.needing(y, 1, 2, 3, 4);
        Check.no("without what spares rule 0 it spoils still", y.isTight(15));
        Check.yes("two places can be spared, but none alone", tightWithTwoTooMany());
    }

    /** Rule 0 holds for 1 alone, 2 and 3 spare it, and rule 1 needs all three. */
    private static boolean tightWithTwoTooMany() {
        FaultShrinker x = Make.recipeOf(1, 2, 3);
        Make.needing(x, 1);
        x.setSpares(0, 2, true);
        x.setSpares(0, 3, true);
        Make.needing(x, 1, 2, 3);
        return x.spoils(1) && x.isTight(7);
    }

    private static void advise() {
        Check.same("advise() of an empty recipe", new FaultShrinker().advise(), -1);
        FaultShrinker x = Make.rowOf(4);
        Check.same("advise() where nothing spoils", x.advise(), 0);
        Make.needing(x, 2);
        Check.same("advise(): nothing spoils without 2", x.advise(), 2);
        Make.needing(x, 3);
        // Without 0, 1, 2, 3 there are left 1 2 3, 0 2 3, 0 1 3 and 0 1 2: they take 4, 4, 5 and 5.
        Check.same("advise(): of several the smallest", x.advise(), 0);
        Check.same("one ingredient", adviceForOne(), 0);
        FaultShrinker z = Make.rowOf(5);
        Make.needing(z, 0, 1);
        Make.needing(z, 4);
        // By halves it takes 5, 5, 4, 4 and 4; one by one it would take 5 without any of them.
        Check.same("advise() is of the search by halves", z.advise(), 2);
        FaultShrinker y = Make.recipeOf(5, 5, 6, 6, 7);
        Make.needing(y, 7);
        y.shrink();
        long before = y.digest();
        Check.same("advise(): the last", y.advise(), 4);
        Check.same("nothing is changed", y.digest(), before);
    }

    private static int adviceForOne() {
        FaultShrinker x = Make.recipeOf(3);
        Make.needing(x, 3);
        return x.advise();
    }

    private static void mean() {
        FaultShrinker x = new FaultShrinker();
        Check.same("mean() without rules", x.mean(), 0.0);
        x.rule();
        Check.same("mean() of a rule that needs nothing", x.mean(), 0.0);
        Make.needing(x, 1, 2, 3);
        Check.same("mean() of 0 and 3", x.mean(), 1.5);
        x.setSpares(1, 9, true);
        Check.same("what spares does not count", x.mean(), 1.5);
        Make.needing(x, 4);
        Make.needing(x, 5, 6, 7, 8, 9, 10);
        Check.same("mean() of 0, 3, 1 and 6", x.mean(), 2.5);
        x.rule();
        x.rule();
        Check.same("mean() of six", x.mean(), 10.0 / 6);
        x.setNeeds(0, 11, true);
        Check.same("the first counts", x.mean(), 11.0 / 6);
    }

    // ---- promise 19

    private static void digest() {
        Check.same("digest() of a new object", new FaultShrinker().digest(),
            Make.folded(0, 0, 0, 0, 0, 0, 0, 0, 1, 0, 0, 1, 0));
        FaultShrinker x = Make.recipeOf(4, 2);
        Make.needing(x, 2);
        x.setSpares(0, 9, true);
        Check.same("digest() without a kept search", x.digest(),
            Make.folded(2, 1, 1, 0, 0, 0, 0, 4, 2, 4, 512, 1, 1, 0, 2, 3, 1, 2, 3, 1));
    }

    private static void digestOfASearch() {
        FaultShrinker x = Make.rowOf(3);
        Make.needing(x, 0, 1);
        Make.needing(x, 2);
        x.shrink();
        Check.same("digest() of a kept search", x.digest(), Make.folded(
            3, 2, 2, 1, 2, 5, 5,
            0, 1, 2,
            3, 0, 2, 1, 0, 4, 0, 1, 1, 1,
            2,
            3, 2, 1, 1, 6, 2, 2, 1, 1, 4,
            4, 5, 2, 3, 4,
            1));
        long before = x.digest();
        Check.same("digest() changes nothing", x.digest(), before);
        x.shrink();
        Check.no("a search more counts", x.digest() == before);
    }

    private static void throwingChangesNothing() {
        FaultShrinker x = new FaultShrinker();
        for (int place = 0; place < 24; place++) {
            x.add(place * 7 % 16);
        }
        for (int rule = 0; rule < 6; rule++) {
            Make.needing(x, rule, 15 - rule);
        }
        x.setSpares(0, 4, true);
        x.shrink();
        long before = x.digest();
        Check.badState("add", () -> x.add(3));
        Check.outOfBounds("add", () -> x.add(99));
        Check.outOfBounds("drop", () -> x.drop(24));
        Check.outOfBounds("kind", () -> x.kind(24));
        Check.badState("rule", () -> x.rule());
        Check.badState("setNeeds", () -> x.setNeeds(0, 4, true));
        Check.badState("setSpares", () -> x.setSpares(0, 15, true));
        Check.outOfBounds("setNeeds", () -> x.setNeeds(6, 1, true));
        Check.outOfBounds("setSpares", () -> x.setSpares(0, 16, true));
        Check.outOfBounds("told", () -> x.told(6, 0));
        Check.badArgument("spoils", () -> x.spoils(-5));
        Check.outOfBounds("kept", () -> x.kept(24));
        Check.outOfBounds("step", () -> x.step(0, 9));
        Check.outOfBounds("count", () -> x.count(9));
        Check.outOfBounds("would", () -> x.would(9));
        Check.badArgument("isTight", () -> x.isTight(1 << 24));
        Check.same("a call that throws changes nothing", x.digest(), before);
    }
}
