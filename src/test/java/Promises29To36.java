/** Promises 29 to 36, sentence by sentence: what is answered in thought of things, actors and the plan. */
final class Promises29To36 extends Promises {
    private static final int[] OTHER_WHATS = {-1, Integer.MIN_VALUE, Integer.MAX_VALUE};

    static void all() {
        promise29();
        promise30();
        promise31();
        promise32();
        promise33();
        promise33sets();
        promise34();
        promise35();
        promise35cheapest();
        promise36();
        promise36plans();
    }

    /** Dresses that fit without altering alone. */
    private static CostumeStock exact(int[] made, int... bodies) {
        return Houses.stage(0, new int[made.length], made, bodies);
    }

    private static CostumeStock stage(String scenes, int[] kinds, int[] made, int... bodies) {
        CostumeStock x = Houses.stage(20, kinds, made, bodies);
        Check.tell(x, 2, scenes);
        return x;
    }

    private static void promise29() {
        sentence(29, "BEST of an ACTOR and a KIND: the THING that SUITS, not OUT (nor in one that is), FITS (1), for the least COST; of several the least.",
            () -> {
                CostumeStock x = stage("", new int[] {0, 1, 1, 2, 3, 4, 5}, new int[] {57, 52, 48, 51, 50, 50, 0}, 50);
                int[] due = {3, 3, 3, 4, 5, NONE};
                for (int kind = 0; kind <= 5; kind++) {
                    due("best of kind " + kind, x.best(0, kind), due[kind]);
                }
                x.hire(3, 1, 0);
                due("of several the least", x.best(0, 1), 1);
                x.put(1, 16, 0);
                due("in a trunk", x.best(0, 1), 1);
                x.hire(6, 1, 0);
                due("in one that is out", x.best(0, 1), 2);
                x.measure(false, 2, 4, 9);
                due("open is not enough", x.best(0, 0), 0);
                x.set(3, 0, 6);
                due("nor is one too far", x.best(0, 0), NONE);
            });
        sentence(29, "for the least COST;", () -> {
            CostumeStock x = Houses.small();
            x.thing(0, 9);
            x.measure(false, 1, 0, 55);
            due("2 against 3", x.best(0, 0), 1);
            x.alter(0, 0);
            due("as it is now", x.best(0, 0), 0);
            Check.tell(x, 0, "cost 0;");
            due("by the law", x.best(0, 0), 0);
            x.set(1, 0, 9);
            due("torn or not", x.best(0, 0), 0);
        });
        sentence(29, "BEST; NONE if there is none, or one can't be.", () -> {
            due("no such thing", Houses.small().best(0, 3), NONE);
            for (int actor : new int[] {-1, 2, Integer.MIN_VALUE, Integer.MAX_VALUE}) {
                refused("best(" + actor + ", 0)", Houses::busy, x -> x.best(actor, 0), NONE);
            }
            for (int kind : new int[] {-1, 6, Integer.MIN_VALUE, Integer.MAX_VALUE}) {
                refused("best(0, " + kind + ")", Houses::busy, x -> x.best(0, kind), NONE);
            }
            due("the last actor", Houses.full().best(5, 0), 10);
            due("a house without things", exact(new int[0], 50).best(0, 0), NONE);
        });
    }

    private static void promise30() {
        sentence(30, "DRESSES of a set of THINGS: ACTORS whom one of them (not OUT nor in one that is) FITS (1), as a set.", () -> {
            CostumeStock x = exact(new int[] {10, 11, 12, 12, 13}, 10, 11, 12, 99, 0);
            x.thing(5, 0);
            due("the first", x.dresses(1), 1);
            due("the second", x.dresses(2), 2);
            due("two for one", x.dresses(12), 4);
            due("all", x.dresses(63), 7);
            due("none", x.dresses(0), 0);
            due("whom it fits not", x.dresses(16), 0);
            due("a trunk", x.dresses(32), 0);
            x.put(2, 15, 0);
            due("in a trunk", x.dresses(4), 4);
            x.hire(5, 1, 0);
            due("in one that is out", x.dresses(4), 0);
            x.hire(1, 1, 0);
            due("out", x.dresses(2), 0);
            due("all that are left", x.dresses(63), 5);
            x.set(1, 0, 9);
            due("torn or not", x.dresses(1), 1);
        });
        sentence(30, "DRESSES, as a set; NONE if the set is none of THINGS.", () -> {
            due("all ten", Houses.busy().dresses(1023) >= 0, true);
            for (int set : new int[] {1024, 1025, -1, Integer.MIN_VALUE, Integer.MAX_VALUE, 1 << 30}) {
                refused("dresses(" + set + ")", Houses::busy, x -> x.dresses(set), NONE);
            }
            due("all sixteen", Houses.full().dresses(65535), 63);
            due("the last of sixteen", Houses.full().dresses(32768), 0);
            due("a 17th", Houses.full().dresses(65536), NONE);
            due("an empty house, no thing", new CostumeStock().dresses(0), 0);
            due("an empty house, one thing", new CostumeStock().dresses(1), NONE);
        });
    }

    private static void promise31() {
        sentence(31, "HOLDS: how many THINGS of a KIND (itself, not what SUITS) are in a HOLDER at any depth.", () -> {
            CostumeStock x = Houses.busy();
            due("masks in the rack", x.holds(0, 3), 1);
            due("masks in the trunk", x.holds(15, 3), 1);
            due("masks in the trunk in it", x.holds(16, 3), 1);
            due("trunks in the rack", x.holds(0, 5), 2);
            due("trunks in the trunk", x.holds(15, 5), 1);
            due("trunks in the inner one", x.holds(16, 5), 0);
            due("dresses in the other rack", x.holds(1, 0), 1);
            due("dresses in one that is out", x.holds(17, 0), 1);
            x.put(2, 15, 0);
            due("uniforms", x.holds(0, 2), 1);
            due("a uniform is no coat here", x.holds(0, 1), 0);
            due("nor a dress", x.holds(0, 0), 0);
            x.hire(5, 1, 0);
            due("gone with the trunk", x.holds(0, 5), 0);
            due("in it yet", x.holds(15, 2), 1);
        });
        sentence(31, "HOLDS; NONE if there is no such HOLDER, or KIND (0 .. 5).", () -> {
            for (int kind = 0; kind <= 5; kind++) {
                due("an empty trunk", Houses.full().holds(25, kind), 0);
            }
            for (int kind : new int[] {-1, 6, Integer.MIN_VALUE, Integer.MAX_VALUE}) {
                refused("holds(0, " + kind + ")", Houses::busy, x -> x.holds(0, kind), NONE);
            }
            for (int holder : new int[] {-1, 2, 9, 10, 14, 20, 100, Integer.MIN_VALUE, Integer.MAX_VALUE}) {
                refused("holds(" + holder + ", 0)", Houses::busy, x -> x.holds(holder, 0), NONE);
            }
            due("the last rack", Houses.full().holds(3, 5), 1);
            due("no 5th rack", Houses.full().holds(4, 5), NONE);
        });
    }

    private static void promise32() {
        sentence(32, "PATH of a THING: the RACK in which it is at any depth (NONE), in how many trunks one in the other it is.", () -> {
            CostumeStock x = Houses.busy();
            int[] racks = {1, NONE, NONE, 0, NONE, 0, 0, NONE, NONE, NONE};
            int[] trunks = {0, 0, 0, 2, 0, 0, 1, 0, 1, 0};
            for (int thing = 0; thing < 10; thing++) {
                due("rack of " + thing, x.path(thing, 0), racks[thing]);
                due("trunks around " + thing, x.path(thing, 1), trunks[thing]);
            }
            x.take(0, 0);
            due("no rack around what is aside", x.path(3, 0), NONE);
            due("two trunks yet", x.path(3, 1), 2);
        });
        sentence(32, "in how many trunks one in the other it is.", () -> {
            CostumeStock x = new CostumeStock();
            x.rack(1);
            for (int i = 0; i < 3; i++) {
                x.thing(5, 0);
            }
            x.thing(0, 0);
            x.put(3, 12, 3);
            x.put(2, 11, 3);
            x.put(1, 10, 3);
            x.put(0, 0, 0);
            for (int thing = 0; thing < 4; thing++) {
                due("around " + thing, x.path(thing, 1), thing);
                due("rack of " + thing, x.path(thing, 0), 0);
            }
        });
        sentence(32, "PATH what 0 the RACK, 1 how many trunks.", () -> {
            CostumeStock x = Houses.full();
            due("the last rack", x.path(15, 0), 3);
            due("no trunk", x.path(15, 1), 0);
        });
        sentence(32, "NONE - 1 if there is none such, or another what.", () -> {
            for (int thing : new int[] {-1, 10, Integer.MIN_VALUE, Integer.MAX_VALUE}) {
                due("path(" + thing + ", 0)", Houses.busy().path(thing, 0), NO_SUCH);
                due("path(" + thing + ", 1)", Houses.busy().path(thing, 1), NO_SUCH);
            }
            for (int what : new int[] {-1, 2, Integer.MIN_VALUE, Integer.MAX_VALUE}) {
                refused("path(0, " + what + ")", Houses::busy, x -> x.path(0, what), NO_SUCH);
            }
        });
    }

    private static void promise33() {
        sentence(33, "TOUR what 0 how many ACTORS, 1 the set.", () -> {
            CostumeStock x = exact(new int[] {10, 11, 11, 13}, 10, 11);
            due("how many", x.tour(0), 2);
            due("the set", x.tour(1), 3);
            due("nothing, nobody", new CostumeStock().tour(0), 0);
            due("no set", new CostumeStock().tour(1), 0);
            CostumeStock nobody = exact(new int[] {10, 11});
            due("nobody", nobody.tour(0), 0);
            due("no set", nobody.tour(1), 0);
            CostumeStock none = exact(new int[] {10, 11}, 12, 13);
            due("none fits", none.tour(0), 0);
            due("no set", none.tour(1), 0);
        });
        sentence(33, "NONE for another what.", () -> {
            refused("tour(2)", Houses::busy, x -> x.tour(2), NONE);
            for (int what : OTHER_WHATS) {
                refused("tour(" + what + ")", Houses::busy, x -> x.tour(what), NONE);
            }
        });
    }

    private static void promise33sets() {
        sentence(33, "TOUR: sets of at most 4 THINGS that are no trunks and not OUT (nor in one that is), by which most ACTORS are DRESSED;",
            () -> {
                int[] made = {10, 11, 12, 13, 14, 15};
                CostumeStock x = exact(made, made);
                due("four of six", x.tour(0), 4);
                due("the least four", x.tour(1), 15);
                x.set(3, 5, 1);
                due("five by four", x.tour(0), 5);
                due("with the last", x.tour(1), 32 + 7);
                x.set(3, 4, 1);
                due("13, 14, 15 by one: six by four", x.tour(0), 6);
                due("with it", x.tour(1), 16 + 7);
                x.thing(5, 0);
                x.put(4, 16, 0);
                due("in a trunk", x.tour(1), 16 + 7);
                x.hire(6, 1, 0);
                due("in one that is out", x.tour(0), 5);
                x.hire(5, 1, 0);
                due("out", x.tour(0), 4);
                due("the four that are left", x.tour(1), 15);
                x.hire(0, 1, 0);
                due("three are left", x.tour(0), 3);
                due("the three", x.tour(1), 14);
            });
        sentence(33, "of several the one with the fewest THINGS, of several the least set: how many ACTORS, the set.", () -> {
            CostumeStock x = exact(new int[] {10, 11, 12, 11, 10, 12}, 10, 11, 12);
            due("the least of three", x.tour(1), 7);
            x.set(3, 3, 1);
            due("one for all three", x.tour(1), 8);
            due("how many", x.tour(0), 3);
            x.set(3, 5, 2);
            due("the lesser of two", x.tour(1), 8);
            x.hire(3, 1, 0);
            due("the other", x.tour(1), 32);
            x.set(3, 5, 1);
            due("two: 5 for 11 and 12, the lesser for 10", x.tour(1), 33);
            CostumeStock full = Houses.full();
            due("all six by one", full.tour(0), 6);
            due("the least", full.tour(1), 1);
        });
        sentence(33, "FITS (1), as a set.", () -> {
            CostumeStock x = exact(new int[] {10, 10}, 10);
            x.measure(false, 0, 1, 10);
            due("open is not enough", x.tour(1), 2);
            x.set(1, 1, 9);
            due("torn or not", x.tour(1), 2);
        });
    }

    private static void promise34() {
        sentence(34, "ALONE of a THING: ACTORS whom it FITS (1), and no other THING (not OUT nor in one that is; nor it).", () -> {
            CostumeStock x = exact(new int[] {10, 11, 11, 12}, 10, 11, 12, 13);
            x.thing(5, 0);
            due("the first alone", x.alone(0), 1);
            due("another fits, too", x.alone(1), 0);
            due("and the other way", x.alone(2), 0);
            due("the last", x.alone(3), 4);
            x.put(2, 14, 0);
            due("another in a trunk", x.alone(1), 0);
            x.hire(4, 1, 0);
            due("the other is in one that is out", x.alone(1), 2);
            due("itself is in one that is out", x.alone(2), 0);
            x.hire(0, 1, 0);
            due("itself is out", x.alone(0), 0);
            x.back(4, 0);
            x.hire(1, 1, 0);
            due("the other is out", x.alone(2), 2);
            x.set(3, 3, 1);
            due("two actors, one of them dressed by another, too", x.alone(3), 4 + 8);
        });
        sentence(34, "whom it FITS (1), and no other THING", () -> {
            CostumeStock x = exact(new int[] {10, 10}, 10);
            x.measure(false, 1, 1, 50);
            due("open is not enough for the other", x.alone(0), 1);
            due("nor for itself", x.alone(1), 0);
            CostumeStock alike = exact(new int[] {10, 10}, 10);
            due("the last fits, too", alike.alone(0), 0);
            due("the first fits, too", alike.alone(1), 0);
            CostumeStock one = exact(new int[] {10}, 10, 10, 10, 10, 10, 10);
            due("one thing for six", one.alone(0), 63);
        });
        sentence(34, "ALONE, as a set; NONE if one can't be (a trunk).", () -> {
            refused("a trunk", Houses::busy, x -> x.alone(5), NONE);
            for (int thing : new int[] {-1, 10, Integer.MIN_VALUE, Integer.MAX_VALUE}) {
                refused("alone(" + thing + ")", Houses::busy, x -> x.alone(thing), NONE);
            }
            due("without actors", exact(new int[] {10}).alone(0), 0);
        });
    }

    private static void promise35() {
        sentence(35, "MENDS what 0 how many, 1 the set, 2 what they cost.", () -> {
            CostumeStock x = Houses.small();
            due("nothing torn", x.mends(99999, 0), 0);
            due("no set", x.mends(99999, 1), 0);
            due("no cost", x.mends(99999, 2), 0);
            x.set(1, 0, 3);
            due("one", x.mends(15, 0), 1);
            due("its set", x.mends(15, 1), 1);
            due("its cost", x.mends(15, 2), 15);
        });
        sentence(35, "NONE if one can't be, or another what.", () -> {
            refused("what 3", Houses::busy, x -> x.mends(9, 3), NONE);
            for (int what : OTHER_WHATS) {
                refused("what " + what, Houses::busy, x -> x.mends(9, what), NONE);
            }
            for (int sum : new int[] {-1, 100000, Integer.MIN_VALUE, Integer.MAX_VALUE}) {
                for (int what = 0; what < 3; what++) {
                    due("mends(" + sum + ", " + what + ")", Houses.busy().mends(sum, what), NONE);
                }
                refused("mends(" + sum + ", 0)", Houses::busy, x -> x.mends(sum, 0), NONE);
            }
        });
        sentence(35, "MENDS by a sum (0 .. 99999): each TORN THING not OUT (nor in one that is) costs all its mend until TORN is 0 (asked with TORN as it is then):",
            () -> {
                CostumeStock x = Houses.small();
                Check.tell(x, 0, "mend torn*torn when torn>1;mend 7;");
                x.set(1, 0, 3);
                due("9, 4 and 7: one less", x.mends(19, 0), 0);
                due("9, 4 and 7", x.mends(20, 0), 1);
                due("its cost", x.mends(20, 2), 20);
                due("torn stays", x.of(0, 3), 3);
                Check.tell(x, 0, "mend 9999;");
                x.set(1, 0, 9);
                due("the dearest there is: one less", x.mends(89990, 0), 0);
                due("the dearest there is", x.mends(89991, 2), 89991);
                x.thing(0, 0);
                x.set(1, 1, 9);
                due("one of two by the greatest sum", x.mends(99999, 1), 1);
                Check.tell(x, 0, "mend 0;");
                due("for nothing", x.mends(0, 1), 3);
                due("what it costs", x.mends(0, 2), 0);
            });
        sentence(35, "each TORN THING not OUT (nor in one that is)", () -> {
            CostumeStock x = Houses.busy();
            for (int thing = 0; thing < 10; thing++) {
                x.set(1, thing, 1);
            }
            due("all but what is out", x.mends(99999, 1), 127);
            x.hire(5, 1, 0);
            due("without the trunk and what is in it", x.mends(99999, 1), 127 - 8 - 32 - 64);
            x.set(1, 1, 0);
            due("without what is whole", x.mends(99999, 1), 1 + 4 + 16);
        });
    }

    private static void promise35cheapest() {
        sentence(35, "the most THINGS that can be whole for that sum: the cheapest first (of several the least THING): how many, the set, what they cost.",
            () -> {
                CostumeStock x = new CostumeStock();
                int[] torn = {4, 2, 0, 2, 1};
                for (int thing = 0; thing < 5; thing++) {
                    x.thing(thing % 5, 0);
                    x.set(1, thing, torn[thing]);
                }
                // 20, 10, -, 10, 5
                int[][] rows = {{4, 0, 0, 0}, {5, 1, 16, 5}, {14, 1, 16, 5}, {15, 2, 18, 15}, {24, 2, 18, 15},
                    {25, 3, 26, 25}, {44, 3, 26, 25}, {45, 4, 27, 45}, {99999, 4, 27, 45}};
                for (int[] row : rows) {
                    for (int what = 0; what < 3; what++) {
                        due("mends(" + row[0] + ", " + what + ")", x.mends(row[0], what), row[1 + what]);
                    }
                }
            });
    }

    private static void swapped(String of, CostumeStock x, int... due) {
        for (int what = 0; what < 4; what++) {
            due(of + ": swaps(" + what + ")", x.swaps(what), due[what]);
        }
    }

    private static void promise36() {
        sentence(36, "SWAPS what 0 how many, 1 i, 2 j of the first, 3 its COST (NONE).", () -> {
            CostumeStock x = stage("scene 9 wear 0 dress wear 1 dress wear 2 mask;", new int[] {0, 0, 3},
                new int[] {50, 60, 50}, 51, 59, 50);
            swapped("two dresses", x, 1, 0, 1, 18);
            x.set(3, 1, 8);
            swapped("one does not fit: none", x, 0, NONE, NONE, NONE);
            swapped("no wears: none", new CostumeStock(), 0, NONE, NONE, NONE);
            swapped("one wear: none", stage("scene 1 wear 0 dress;", new int[] {0, 0}, new int[] {50, 50}, 50), 0, NONE, NONE, NONE);
            CostumeStock last = stage("scene 9 wear 0 mask wear 1 dress wear 2 dress;", new int[] {0, 0, 3},
                new int[] {50, 60, 50}, 50, 51, 59);
            swapped("the last couple", last, 1, 1, 2, 18);
            CostumeStock other = stage("scene 9 wear 0 dress wear 1 dress;", new int[] {0, 0}, new int[] {60, 50}, 51, 59);
            swapped("the other way", other, 1, 0, 1, 18);
        });
        sentence(36, "NONE without a plan, or for another what.", () -> {
            CostumeStock x = stage("scene 1 wear 0 mask;", new int[] {0}, new int[] {50}, 50);
            swapped("no plan", x, NONE, NONE, NONE, NONE);
            refused("swaps(4)", Houses::busy, y -> y.swaps(4), NONE);
            for (int what : OTHER_WHATS) {
                refused("swaps(" + what + ")", Houses::busy, y -> y.swaps(what), NONE);
            }
        });
    }

    private static void promise36plans() {
        sentence(36, "SWAPS: couples of WEARS of PLAN (i below j) with two THINGS that they could exchange, all else staying, and it would be a plan yet: how many; the first i, j; the COST of that plan.",
            () -> {
                CostumeStock six = stage("scene 0 wear 0 set wear 1 set wear 2 set wear 3 set wear 4 set wear 5 set;",
                    new int[] {4, 4, 4, 4, 4, 4}, new int[] {50, 51, 52, 53, 54, 55}, 50, 51, 52, 53, 54, 55);
                swapped("all couples of six", six, 15, 0, 1, 2);
                CostumeStock kinds = stage("scene 9 wear 0 coat wear 1 dress;", new int[] {1, 0}, new int[] {50, 50}, 50, 50);
                swapped("a dress is no coat", kinds, 0, NONE, NONE, NONE);
                CostumeStock torn = stage("scene 9 wear 0 dress wear 1 dress;", new int[] {0, 0}, new int[] {50, 50}, 50, 50);
                swapped("as dear", torn, 1, 0, 1, 0);
                torn.set(1, 0, 5);
                swapped("no plan", torn, NONE, NONE, NONE, NONE);
            });
        sentence(36, "with two THINGS that they could exchange, all else staying,", () -> {
            int[] kinds = {0, 0};
            int[] made = {50, 50};
            CostumeStock x = stage("scene 9 wear 0 dress;scene 9 wear 1 dress;", kinds, made, 50, 50);
            due("one thing in both", x.plan(51), 0);
            swapped("one thing in both: none", x, 0, NONE, NONE, NONE);
            Check.tell(x, 2, "scene 5 wear 0 dress;scene 9 wear 1 dress;");
            swapped("two things", x, 1, 0, 1, 0);
            Check.tell(x, 2, "scene 3 wear 0 dress;scene 9 wear 0 dress wear 1 dress;");
            // Plan 0, 0, 1: with 0 and 2 exchanged 1, 0, 0 would have one twice; with 1 and 2 it is 0, 1, 0,
            // where the first dress would go from one to the other in 3 minutes.
            swapped("neither can", x, 0, NONE, NONE, NONE);
            Check.tell(x, 2, "scene 6 wear 0 dress;scene 9 wear 0 dress wear 1 dress;");
            swapped("with 6 minutes 1 and 2 can", x, 1, 1, 2, 0);
        });
    }
}
