/** Promise 28, sentence by sentence: the plan of least cost, and what is proved of it. */
final class Promises28 extends Promises {
    static void all() {
        whats();
        otherWhats();
        couldBe();
        noneTwice();
        quickChanges();
        handedOver();
        leastCost();
        first();
        bound();
        instead();
        otherwise();
        usesAndChanges();
        nothingStays();
    }

    private static CostumeStock stage(int[] kinds, int[] made, int... bodies) {
        return Houses.stage(20, kinds, made, bodies);
    }

    private static CostumeStock staged(String scenes, int[] kinds, int[] made, int... bodies) {
        CostumeStock x = stage(kinds, made, bodies);
        Check.due("scenes " + scenes, Check.tell(x, 2, scenes) > 0, true);
        return x;
    }

    private static void planned(String of, CostumeStock x, int cost, int... things) {
        due(of + ": cost", x.plan(0), cost);
        for (int i = 0; i < things.length; i++) {
            due(of + ": thing of wear " + i, x.plan(10 + i), things[i]);
        }
    }

    private static void whats() {
        sentence(28, "PLAN what 0 COST, 1 CHANGES, 10 + i the THING of WEAR i,", () -> {
            CostumeStock x = Houses.full();
            planned("six wears", x, 2, 5, 5, 7, 8, 8, 10);
            due("changes", x.plan(1), 0);
            CostumeStock empty = new CostumeStock();
            due("no wear: cost", empty.plan(0), 0);
            due("no wear: changes", empty.plan(1), 0);
            due("no wear: no thing", empty.plan(10), NONE);
        });
        sentence(28, "20 + i BOUND of i (to all WEARS),", () -> {
            CostumeStock x = Houses.full();
            int[] due = {2, 2, 1, 1, 1, 0, 0};
            for (int i = 0; i <= 6; i++) {
                due("bound of " + i, x.plan(20 + i), due[i]);
            }
            due("bound of 7", x.plan(27), NONE);
            due("without wears", new CostumeStock().plan(20), 0);
            due("without wears, of 1", new CostumeStock().plan(21), NONE);
        });
        sentence(28, "30 + i INSTEAD of WEAR i, 40 + i ELSE of WEAR i (NONE: there is none such), 50 + t USES of THING t.", () -> {
            CostumeStock x = Houses.full();
            int coats = 0;
            for (int thing = 0; thing < 15; thing++) {
                coats |= thing % 3 > 0 ? 1 << thing : 0;
            }
            // Twice change is 6, the minutes are 9: any other coat will do, and there are ten of them.
            int[] plan = {5, 5, 7, 8, 8, 10};
            for (int i = 0; i < 6; i++) {
                due("instead of " + i, x.plan(30 + i), coats & ~(1 << plan[i]));
            }
            // The next best for 50 is 4 (49), for 51 is 7 (52), for 52 is 8 (53), for 53 is 7, for 54 is 10, for 55 is 11.
            int[] next = {1, 0, 1, 1, 0, 1};
            for (int i = 0; i < 6; i++) {
                due("else of " + i, x.plan(40 + i), 2 + next[i]);
            }
            int[] uses = {0, 0, 0, 0, 0, 3, 0, 4, 24, 0, 32, 0, 0, 0, 0, 0};
            for (int thing = 0; thing < 16; thing++) {
                due("uses of " + thing, x.plan(50 + thing), uses[thing]);
            }
        });
    }

    private static void otherWhats() {
        sentence(28, "or another what.", () -> {
            int[] others = {-1, 2, 9, 16, 19, 27, 29, 36, 39, 46, 49, 66, 100, -10, Integer.MIN_VALUE, Integer.MAX_VALUE};
            for (int what : others) {
                due("plan(" + what + ")", Houses.full().plan(what), NONE);
            }
            refused("plan(66)", Houses::full, x -> x.plan(66), NONE);
            CostumeStock x = Houses.busy();
            for (int what : new int[] {13, 24, 33, 43, 60}) {
                due("plan(" + what + ") of three wears and ten things", x.plan(what), NONE);
            }
            due("the last wear", x.plan(12) >= 0, true);
            due("the last thing", x.plan(59), 0);
        });
        sentence(28, "NONE if there is none (BOUND: if some WEAR has no THING),", () -> {
            CostumeStock x = staged("scene 9 wear 0 dress wear 1 mask;", new int[] {0}, new int[] {50}, 50, 50);
            for (int what : new int[] {0, 1, 10, 11, 20, 21, 30, 31, 40, 41, 50}) {
                due("plan(" + what + ")", x.plan(what), NONE);
            }
            due("bound behind all wears", x.plan(22), 0);
            x.thing(3, 20);
            x.measure(false, 1, 0, 57);
            due("there is one", x.plan(0), 7);
            due("bound", x.plan(20), 7);
            x.hire(0, 1, 0);
            due("none for the first alone", x.plan(0), NONE);
            due("bound of all", x.plan(20), NONE);
            due("bound of the last", x.plan(21), 7);
            // A thing for each, but one for both: no plan, and yet a bound.
            CostumeStock y = staged("scene 9 wear 0 dress wear 1 dress;", new int[] {0}, new int[] {50}, 51, 52);
            due("no plan", y.plan(0), NONE);
            due("no uses", y.plan(50), NONE);
            due("a bound", y.plan(20), 3);
            due("a bound", y.plan(21), 2);
        });
    }

    private static void couldBe() {
        sentence(28, "PLAN: to each WEAR a THING that SUITS its KIND,", () -> {
            String[] kinds = {"dress", "coat", "uniform", "mask", "set"};
            // Of each kind one, the dearest first: what suits and is cheapest is taken.
            for (int kind = 0; kind < 5; kind++) {
                CostumeStock x = staged("scene 1 wear 0 " + kinds[kind] + ";", new int[] {0, 1, 2, 3, 4, 5},
                    new int[] {55, 54, 53, 52, 51, 0}, 50);
                int thing = kind < 3 ? 2 : kind;
                planned(kinds[kind], x, 5 - thing, thing);
            }
            CostumeStock x = staged("scene 1 wear 0 uniform;", new int[] {0, 1}, new int[] {50, 50}, 50);
            due("no coat for a uniform", x.plan(0), NONE);
        });
        sentence(28, "is not OUT (nor in one that is), with TORN below 5,", () -> {
            CostumeStock x = staged("scene 1 wear 0 dress;", new int[] {0, 0, 0, 5, 5}, new int[] {50, 51, 52, 0, 0}, 50);
            x.set(1, 0, 4);
            planned("torn 4", x, 0, 0);
            x.set(1, 0, 5);
            planned("torn 5", x, 1, 1);
            x.set(1, 0, 9);
            planned("torn 9", x, 1, 1);
            x.put(1, 14, 3);
            x.put(4, 13, 0);
            planned("in a trunk in a trunk", x, 1, 1);
            x.hire(3, 1, 0);
            planned("in one that is out", x, 2, 2);
            x.hire(2, 1, 0);
            due("out", x.plan(0), NONE);
            x.back(3, 0);
            planned("back", x, 1, 1);
        });
        sentence(28, "that FITS its ACTOR or is OPEN to him;", () -> {
            CostumeStock x = staged("scene 1 wear 0 dress;", new int[] {0}, new int[] {50}, 70);
            planned("lets at most", x, 20, 0);
            x.measure(true, 0, 0, 71);
            due("more than lets", x.plan(0), NONE);
            x.measure(true, 0, 0, 30);
            planned("lets at most, below", x, 20, 0);
            x.measure(true, 0, 0, 29);
            due("more than lets, below", x.plan(0), NONE);
            x.measure(true, 0, 0, 0);
            planned("open", x, 0, 0);
        });
    }

    private static void noneTwice() {
        sentence(28, "none twice in one scene;", () -> {
            CostumeStock x = staged("scene 99 wear 0 dress wear 1 dress;", new int[] {0, 0}, new int[] {50, 60}, 50, 50);
            planned("one each", x, 10, 0, 1);
            x.hire(1, 1, 0);
            due("one for two", x.plan(0), NONE);
            Check.tell(x, 2, "scene 99 wear 0 dress;scene 0 wear 1 dress;");
            planned("in two scenes", x, 0, 0, 0);
            CostumeStock six = staged("scene 0 wear 0 set wear 1 set wear 2 set wear 3 set wear 4 set wear 5 set;",
                new int[] {4, 4, 4, 4, 4, 4}, new int[] {50, 50, 50, 50, 50, 50}, 50, 51, 52, 53, 54, 55);
            planned("six of six", six, 15, 0, 1, 2, 3, 4, 5);
            six.set(1, 3, 5);
            due("six of five", six.plan(0), NONE);
        });
    }

    private static void quickChanges() {
        sentence(28, "if an ACTOR of one scene is in the next one, too, with another THING, MINUTES are change (next: that KIND) at least;",
            () -> {
                int[] kinds = {0, 3};
                int[] made = {50, 50};
                for (int change : new int[] {1, 4, 99}) {
                    CostumeStock x = stage(kinds, made, 50);
                    Check.tell(x, 1, "change " + change + ";");
                    Check.tell(x, 2, "scene " + change + " wear 0 dress;scene 0 wear 0 mask;");
                    due(change + " minutes", x.plan(0), 0);
                    Check.tell(x, 2, "scene " + (change - 1) + " wear 0 dress;scene 99 wear 0 mask;");
                    due(change - 1 + " minutes", x.plan(0), NONE);
                }
                CostumeStock x = staged("scene 0 wear 0 dress;scene 0;scene 0 wear 0 mask;", kinds, made, 50);
                due("a scene between", x.plan(0), 0);
                Check.tell(x, 2, "scene 0 wear 0 dress;scene 0 wear 0 dress;");
                due("the same thing", x.plan(0), 0);
                Check.tell(x, 1, "change 100;");
                Check.tell(x, 2, "scene 99 wear 0 dress;scene 99 wear 0 mask;");
                due("more than there can be", x.plan(0), NONE);
                Check.tell(x, 1, "change 0;");
                Check.tell(x, 2, "scene 0 wear 0 dress;scene 0 wear 0 mask;");
                due("none needed", x.plan(0), 0);
            });
        sentence(28, "(next: that KIND)", () -> {
            // A mask, then as a coat a uniform: its own kind counts, not that of the wear.
            CostumeStock x = stage(new int[] {3, 2}, new int[] {50, 50}, 50);
            Check.tell(x, 1, "change 5 when next=2;change 7 when next=1;change 9;");
            Check.tell(x, 2, "scene 5 wear 0 mask;scene 0 wear 0 coat;");
            due("5 minutes", x.plan(0), 0);
            Check.tell(x, 2, "scene 4 wear 0 mask;scene 0 wear 0 coat;");
            due("4 minutes", x.plan(0), NONE);
            Check.tell(x, 2, "scene 8 wear 0 coat;scene 0 wear 0 mask;");
            due("8 minutes the other way", x.plan(0), NONE);
            Check.tell(x, 2, "scene 9 wear 0 coat;scene 0 wear 0 mask;");
            due("9 minutes the other way", x.plan(0), 0);
        });
        sentence(28, "if an ACTOR of one scene is in the next one, too,", () -> {
            CostumeStock x = staged("scene 2 wear 0 dress;scene 9 wear 0 coat;", new int[] {0, 1}, new int[] {50, 55}, 50);
            planned("he has the coat on from the first", x, 10, 1, 1);
            Check.tell(x, 2, "scene 3 wear 0 dress;scene 9 wear 0 coat;");
            planned("he can change", x, 5, 0, 1);
            x.actor();
            x.measure(true, 1, 0, 50);
            Check.tell(x, 2, "scene 2 wear 0 dress;scene 9 wear 1 coat;");
            planned("another actor", x, 5, 0, 1);
        });
    }

    private static void handedOver() {
        sentence(28, "if a THING is in both with two ACTORS, MINUTES are twice change (next: its KIND) at least.", () -> {
            int[] kinds = {0};
            int[] made = {50};
            for (int change : new int[] {1, 3, 49}) {
                CostumeStock x = stage(kinds, made, 51, 52);
                Check.tell(x, 1, "change " + change + ";");
                Check.tell(x, 2, "scene " + 2 * change + " wear 0 dress;scene 0 wear 1 dress;");
                due(2 * change + " minutes", x.plan(0), 3);
                Check.tell(x, 2, "scene " + (2 * change - 1) + " wear 0 dress;scene 99 wear 1 dress;");
                due(2 * change - 1 + " minutes", x.plan(0), NONE);
            }
            CostumeStock x = staged("scene 0 wear 0 dress;scene 0;scene 0 wear 1 dress;", kinds, made, 51, 52);
            due("a scene between", x.plan(0), 3);
            Check.tell(x, 2, "scene 0 wear 0 dress;scene 0 wear 0 dress;");
            due("one actor", x.plan(0), 2);
        });
        sentence(28, "(next: its KIND)", () -> {
            CostumeStock x = stage(new int[] {2}, new int[] {50}, 50, 50);
            Check.tell(x, 1, "change 4 when next=2 and kind=2;change 0;");
            Check.tell(x, 2, "scene 7 wear 0 dress;scene 0 wear 1 dress;");
            due("7 minutes", x.plan(0), NONE);
            Check.tell(x, 2, "scene 8 wear 0 dress;scene 0 wear 1 dress;");
            due("8 minutes", x.plan(0), 0);
        });
    }

    private static void leastCost() {
        sentence(28, "The least COST, added (each as it is NOW);", () -> {
            CostumeStock x = staged("scene 9 wear 0 dress wear 1 dress;scene 9 wear 0 dress;", new int[] {0, 0},
                new int[] {50, 60}, 53, 58);
            planned("3, 2 and 3", x, 8, 0, 1, 0);
            x.alter(1, 0);
            // Now 53 and made 60: 0 for the first, 5 for the second.
            planned("as it is now", x, 8, 0, 1, 1);
            due("the purse is not asked", x.look(4), -7);
            Check.tell(x, 0, "cost 9999;");
            planned("9999 for the second alone", x, 9999, 1, 0, 1);
            Check.tell(x, 0, "cost 0;");
            planned("nothing", x, 0, 0, 1, 0);
        });
        sentence(28, "The least COST, added", () -> {
            // What is cheapest for the first leaves the dearest for the second: the sum counts.
            CostumeStock x = staged("scene 9 wear 0 dress wear 1 dress;", new int[] {0, 0}, new int[] {50, 52}, 50, 31);
            planned("the sum", x, 21, 1, 0);
            due("neither can be replaced alone", x.plan(30), 0);
            due("neither can be replaced alone", x.plan(31), 0);
            CostumeStock most = stage(new int[] {0}, new int[] {50}, 51);
            for (int measure = 1; measure < 5; measure++) {
                most.measure(false, 0, measure, 50);
                most.measure(true, 0, measure, 51);
            }
            Check.tell(most, 0, "cost 9999;");
            Check.tell(most, 2, "scene 9 wear 0 dress;".repeat(6));
            due("six times five times 9999", most.plan(0), 299970);
            due("bound", most.plan(20), 299970);
        });
    }

    private static void first() {
        sentence(28, "of several plans the first (WEAR by WEAR, the lesser THING).", () -> {
            CostumeStock x = staged("scene 9 wear 0 dress wear 1 dress wear 2 dress;", new int[] {0, 0, 0, 0},
                new int[] {48, 52, 48, 52}, 50, 50, 50);
            planned("all alike", x, 6, 0, 1, 2);
            x.measure(false, 1, 0, 51);
            planned("the cheapest is in it, the rest by number", x, 5, 0, 1, 2);
            x.measure(false, 0, 0, 40);
            planned("without the dearest", x, 5, 1, 2, 3);
            Check.tell(x, 2, "scene 9 wear 2 dress;scene 9;scene 9 wear 0 dress;");
            planned("two scenes", x, 2, 1, 1);
            x.measure(false, 3, 0, 51);
            planned("the lesser of two", x, 2, 1, 1);
        });
    }

    private static void bound() {
        sentence(28, "BOUND of i: of WEARS from i on the least COSTS of THINGS that could be there, each one by itself, added.", () -> {
            CostumeStock x = staged("scene 0 wear 0 dress wear 1 mask;scene 0 wear 2 dress;scene 0 wear 0 set;",
                new int[] {0, 3, 0, 4}, new int[] {50, 50, 70, 50}, 53, 51, 58);
            int[] due = {3 + 1 + 8 + 3, 1 + 8 + 3, 8 + 3, 3, 0};
            for (int i = 0; i <= 4; i++) {
                due("bound of " + i, x.plan(20 + i), due[i]);
            }
            due("behind all", x.plan(25), NONE);
            due("the plan is dearer: too quick to hand over", x.plan(0), 3 + 1 + 12 + 3);
            x.set(1, 0, 5);
            due("what is torn could not be there", x.plan(22), 12 + 3);
            x.hire(3, 1, 0);
            due("nothing for the last", x.plan(23), NONE);
            due("nor for those ahead of it", x.plan(20), NONE);
            due("behind all", x.plan(24), 0);
        });
    }

    private static void instead() {
        sentence(28, "INSTEAD of a WEAR in PLAN: THINGS by which alone the one there can be replaced so that all else stays and it is a plan yet (dearer or not; a set).",
            () -> {
                CostumeStock x = staged("scene 9 wear 0 dress wear 1 coat;", new int[] {0, 1, 0, 2, 0},
                    new int[] {50, 50, 50, 60, 71}, 50, 50);
                planned("plan", x, 0, 0, 1);
                due("instead of 0: 2 as dear, 3 dearer, 4 does not fit", x.plan(30), 4 + 8);
                due("instead of 1: 3 alone", x.plan(31), 8);
                x.set(1, 3, 5);
                due("3 is torn", x.plan(30), 4);
                due("an empty set", x.plan(31), 0);
                due("no wear", x.plan(32), NONE);
            });
        sentence(28, "so that all else stays", () -> {
            int[] kinds = {0, 0};
            int[] made = {50, 55};
            CostumeStock x = staged("scene 2 wear 0 dress;scene 2 wear 0 dress;", kinds, made, 50);
            due("he could not change", x.plan(30), 0);
            due("nor change back", x.plan(31), 0);
            Check.tell(x, 2, "scene 3 wear 0 dress;scene 2 wear 0 dress;");
            due("he could", x.plan(30), 2);
            due("he could", x.plan(31), 2);
            Check.tell(x, 2, "scene 3 wear 0 dress;scene 2 wear 0 dress;scene 9 wear 0 dress;");
            due("ahead of it he could, behind it not", x.plan(31), 0);
            Check.tell(x, 2, "scene 2 wear 0 dress;scene 3 wear 0 dress;scene 9 wear 0 dress;");
            due("behind it he could, ahead of it not", x.plan(31), 0);
            CostumeStock y = staged("scene 5 wear 0 dress;scene 5 wear 1 dress;", kinds, made, 50, 55);
            planned("plan", y, 0, 0, 1);
            due("not handed over", y.plan(30), 0);
            due("not handed over", y.plan(31), 0);
            Check.tell(y, 2, "scene 6 wear 0 dress;scene 5 wear 1 dress;");
            due("handed over", y.plan(30), 2);
            due("handed over", y.plan(31), 1);
        });
    }

    private static void otherwise() {
        sentence(28, "ELSE of a WEAR: the least COST of a plan in which it has not the THING that it has in PLAN.", () -> {
            CostumeStock x = staged("scene 9 wear 0 dress wear 1 dress;", new int[] {0, 0, 0}, new int[] {50, 51, 59}, 50, 50);
            planned("plan", x, 1, 0, 1);
            due("else of 0: they exchange", x.plan(40), 1);
            due("else of 1", x.plan(41), 1);
            due("the plan stays", x.plan(10), 0);
            due("its cost stays", x.plan(0), 1);
            x.hire(1, 1, 0);
            planned("without 1", x, 9, 0, 2);
            due("else of 1", x.plan(41), 9);
            CostumeStock y = staged("scene 2 wear 0 dress;scene 2 wear 0 dress;", new int[] {0, 0}, new int[] {50, 55}, 50);
            due("the other wear goes with it", y.plan(40), 10);
            due("either way", y.plan(41), 10);
        });
        sentence(28, "(NONE: there is none such)", () -> {
            CostumeStock x = staged("scene 9 wear 0 dress wear 1 mask;", new int[] {0, 3, 3}, new int[] {50, 50, 55}, 50, 50);
            due("nothing else", x.plan(40), NONE);
            due("another one", x.plan(41), 5);
            due("no wear", x.plan(42), NONE);
            due("the plan stays", x.plan(0), 0);
        });
    }

    private static void usesAndChanges() {
        sentence(28, "USES of a THING: the WEARS that have it in PLAN (a set).", () -> {
            CostumeStock x = staged("scene 9 wear 0 dress wear 1 coat;scene 9 wear 1 coat;scene 9 wear 0 dress;",
                new int[] {0, 1, 0, 5}, new int[] {50, 50, 60, 0}, 50, 50);
            planned("plan", x, 0, 0, 1, 1, 0);
            due("uses of 0", x.plan(50), 1 + 8);
            due("uses of 1", x.plan(51), 2 + 4);
            due("uses of 2", x.plan(52), 0);
            due("uses of a trunk", x.plan(53), 0);
            due("uses of no thing", x.plan(54), NONE);
            Check.tell(x, 2, "scene 9 wear 0 dress;".repeat(6));
            due("all six", x.plan(50), 63);
        });
        sentence(28, "CHANGES: how often in PLAN an ACTOR changes from one scene to the next.", () -> {
            int[] kinds = {0, 3};
            int[] made = {50, 50};
            String[] wears = {"dress", "mask", "dress", "mask", "dress", "mask"};
            StringBuilder scenes = new StringBuilder();
            for (int i = 0; i < 6; i++) {
                scenes.append("scene 9 wear 0 ").append(wears[i]).append(';');
                CostumeStock x = staged(scenes.toString(), kinds, made, 50);
                due("changes in " + (i + 1) + " scenes", x.plan(1), i);
            }
            CostumeStock x = staged("scene 9 wear 0 dress;scene 9;scene 9 wear 0 mask;", kinds, made, 50);
            due("with a scene between", x.plan(1), 0);
            Check.tell(x, 2, "scene 9 wear 0 dress;scene 9 wear 0 dress;");
            due("the same thing", x.plan(1), 0);
            x.actor();
            x.measure(true, 1, 0, 50);
            Check.tell(x, 2, "scene 9 wear 0 dress;scene 9 wear 1 mask;");
            due("two actors", x.plan(1), 0);
            Check.tell(x, 2, "scene 9 wear 0 dress wear 1 mask;scene 9 wear 0 mask wear 1 dress;");
            due("both change", x.plan(1), 2);
        });
    }

    private static void nothingStays() {
        sentence(28, "IN THOUGHT (nothing of it stays; no DRAWS).", () -> {
            CostumeStock x = Houses.busy();
            for (int what = 0; what < 66; what++) {
                x.plan(what);
            }
            for (int what = 0; what < 4; what++) {
                x.swaps(what);
                x.mends(50, what);
                x.tour(what);
                x.earns(what);
            }
            for (int thing = 0; thing < 10; thing++) {
                x.alone(thing);
                x.dresses(1 << thing);
                x.fits(thing, 0);
                x.cost(thing, 1);
                x.suits(thing, 0);
                x.path(thing, 0);
                x.holds(10 + thing, 0);
                x.best(thing % 2, thing % 6);
                x.share(8, thing);
            }
            Trace.same("thought leaves", x, Houses.busy());
        });
        sentence(28, "(each as it is NOW);", () -> {
            // The plan is thought anew after whatever could have changed it.
            CostumeStock x = staged("scene 9 wear 0 dress;", new int[] {0, 0}, new int[] {50, 55}, 54);
            planned("at first", x, 1, 1);
            x.alter(0, 0);
            planned("altered", x, 0, 0);
            x.undo();
            planned("undone", x, 1, 1);
            x.set(1, 1, 5);
            planned("torn", x, 4, 0);
            x.care(1, true);
            planned("mended", x, 1, 1);
            x.hire(1, 1, 0);
            planned("hired out", x, 4, 0);
            x.back(1, 5);
            planned("back, too torn", x, 4, 0);
            x.set(1, 1, 0);
            Check.tell(x, 0, "cost 9 when by=1;cost 2;");
            planned("another law", x, 2, 0);
            x.measure(true, 0, 0, 55);
            planned("another body", x, 0, 1);
            x.image(true);
            x.set(3, 1, 0);
            x.measure(false, 1, 0, 60);
            planned("another measure", x, 2, 0);
            x.image(false);
            planned("the image", x, 0, 1);
            x.measure(true, 0, 0, 52);
            planned("a body that costs", x, 2, 0);
            Check.tell(x, 2, "");
            due("no scenes", x.plan(0), 0);
            Check.tell(x, 2, "scene 9 wear 0 mask;");
            due("other scenes", x.plan(0), NONE);
            x.thing(3, 0);
            planned("a new thing", x, 0, 2);
        });
    }
}
