/** Promises 24, 25, 29, 30, 33, 34, 35, 38, 39: what is answered in thought, but for the plan. */
public final class ThoughtTest {
    public static void main(String[] args) {
        fitsAndCost();
        best();
        dressesAndAlone();
        tour();
        tourOfFour();
        mends();
        earns();
        share();
        Check.finish();
    }

    private static void fitsAndCost() {
        CostumeStock x = new CostumeStock();
        x.thing(0, 5);
        x.thing(5, 5);
        x.actor();
        Check.due("no measures at all", x.fits(0, 0), 1);
        x.measure(false, 0, 0, 50);
        Check.due("the actor lacks one", x.fits(0, 0), 2);
        Check.due("cost of an open one", x.cost(0, 0), 0);
        x.measure(true, 0, 1, 70);
        Check.due("the thing lacks one", x.fits(0, 0), 2);
        x.measure(true, 0, 0, 55);
        Check.due("lets at most", x.fits(0, 0), 1);
        x.measure(true, 0, 0, 45);
        Check.due("lets at most, below", x.fits(0, 0), 1);
        x.measure(true, 0, 0, 56);
        Check.due("too far", x.fits(0, 0), 0);
        Check.due("cost of what does not fit", x.cost(0, 0), -1);
        x.measure(true, 0, 0, 44);
        Check.due("too far below", x.fits(0, 0), 0);
        x.measure(false, 0, 2, 9);
        Check.due("too far goes ahead of open", x.fits(0, 0), 0);
        x.measure(true, 0, 0, 52);
        x.measure(false, 0, 1, 70);
        Check.due("open", x.fits(0, 0), 2);
        Check.due("cost: alike ones cost nothing", x.cost(0, 0), 2);
        x.alter(0, 0);
        Check.due("cost as it is now", x.cost(0, 0), 0);
        x.measure(true, 0, 0, 56);
        Check.due("fits by made, not by now", x.fits(0, 0), 0);
        x.hire(0, 1, 0);
        Check.due("fits though it is out", x.fits(0, 0), 0);
        Check.due("a trunk", x.fits(1, 0), -1);
        Check.due("no thing", x.fits(2, 0), -1);
        Check.due("thing -1", x.fits(-1, 0), -1);
        Check.due("no actor", x.fits(0, 1), -1);
        Check.due("actor -1", x.fits(0, -1), -1);
        Check.due("cost of a trunk", x.cost(1, 0), -1);
        Check.due("cost of no thing", x.cost(2, 0), -1);
        Check.due("cost for no actor", x.cost(0, 1), -1);
        Check.due("cost for actor -1", x.cost(0, -1), -1);
    }

    private static void best() {
        CostumeStock x = new CostumeStock();
        int[] made = {50, 53, 53, 52, 51};
        int[] kinds = {0, 1, 2, 3, 0};
        for (int i = 0; i < 5; i++) {
            x.thing(kinds[i], 9);
            x.measure(false, i, 0, made[i]);
        }
        x.actor();
        x.measure(true, 0, 0, 54);
        Check.due("best dress: of several the least", x.best(0, 0), 1);
        Check.due("best uniform", x.best(0, 2), 2);
        Check.due("best mask", x.best(0, 3), 3);
        Check.due("best set", x.best(0, 4), -1);
        Check.due("best trunk", x.best(0, 5), -1);
        Check.due("kind 6", x.best(0, 6), -1);
        Check.due("kind -1", x.best(0, -1), -1);
        Check.due("no actor", x.best(1, 0), -1);
        Check.due("actor -1", x.best(-1, 0), -1);
        x.hire(1, 1, 0);
        Check.due("not one that is out", x.best(0, 0), 2);
        x.set(1, 2, 9);
        Check.due("torn or not", x.best(0, 0), 2);
        x.measure(false, 2, 1, 9);
        Check.due("not an open one", x.best(0, 0), 4);
        x.measure(false, 4, 0, 40);
        Check.due("not one that does not fit", x.best(0, 0), 0);
    }

    private static void dressesAndAlone() {
        CostumeStock x = new CostumeStock();
        x.thing(0, 0);
        x.thing(5, 0);
        x.thing(1, 0);
        x.thing(3, 0);
        for (int i = 0; i < 3; i++) {
            x.actor();
            x.measure(true, i, 0, 10 + i);
        }
        x.measure(false, 0, 0, 10);
        x.measure(false, 2, 0, 11);
        x.measure(false, 3, 0, 11);
        Check.due("dresses(1)", x.dresses(1), 1);
        Check.due("dresses(2)", x.dresses(2), 0);
        Check.due("dresses(15)", x.dresses(15), 3);
        Check.due("dresses(16)", x.dresses(16), -1);
        Check.due("dresses(-1)", x.dresses(-1), -1);
        Check.due("dresses(MIN)", x.dresses(Integer.MIN_VALUE), -1);
        Check.due("alone(0)", x.alone(0), 1);
        Check.due("alone(2)", x.alone(2), 0);
        Check.due("alone of a trunk", x.alone(1), -1);
        Check.due("alone of no thing", x.alone(4), -1);
        Check.due("alone of thing -1", x.alone(-1), -1);
        x.put(3, 11, 0);
        x.hire(1, 1, 0);
        Check.due("alone while the other is in one out", x.alone(2), 2);
        Check.due("dresses by what is in one out", x.dresses(8), 0);
        x.hire(0, 1, 0);
        Check.due("alone of what is out", x.alone(0), 0);
        CostumeStock full = new CostumeStock();
        for (int i = 0; i < 16; i++) {
            full.thing(0, 0);
        }
        full.actor();
        Check.due("dresses by all sixteen", full.dresses(65535), 1);
        Check.due("dresses by a 17th", full.dresses(65536), -1);
    }

    private static void tour() {
        CostumeStock x = new CostumeStock();
        Check.due("tour(0) of nothing", x.tour(0), 0);
        Check.due("tour(1) of nothing", x.tour(1), 0);
        Check.due("tour(2)", x.tour(2), -1);
        Check.due("tour(-1)", x.tour(-1), -1);
        int[] made = {10, 11, 12, 13, 12, 11};
        for (int i = 0; i < 6; i++) {
            x.thing(0, 0);
            x.measure(false, i, 0, made[i]);
        }
        Check.due("without actors", x.tour(1), 0);
        for (int i = 0; i < 3; i++) {
            x.actor();
            x.measure(true, i, 0, 10 + i);
        }
        Check.due("how many", x.tour(0), 3);
        Check.due("the least set", x.tour(1), 7);
        x.hire(1, 1, 0);
        Check.due("how many without 1", x.tour(0), 3);
        Check.due("the set without 1", x.tour(1), 1 + 4 + 32);
        x.set(3, 3, 20);
        Check.due("one thing for all", x.tour(1), 8);
        x.hire(3, 1, 0);
        x.hire(0, 1, 0);
        Check.due("two are left", x.tour(0), 2);
        Check.due("the set of two", x.tour(1), 4 + 32);
    }

    private static void tourOfFour() {
        CostumeStock x = new CostumeStock();
        for (int i = 0; i < 6; i++) {
            x.actor();
            x.measure(true, i, 0, 10 + i);
        }
        for (int i = 0; i < 6; i++) {
            x.thing(3, 0);
            x.measure(false, i, 0, 15 - i);
        }
        Check.due("four of six", x.tour(0), 4);
        Check.due("the least set of four", x.tour(1), 15);
        x.set(3, 5, 2);
        Check.due("six by four", x.tour(0), 6);
        Check.due("the last one with them", x.tour(1), 32 + 1 + 2 + 4);
    }

    private static void mends() {
        CostumeStock x = new CostumeStock();
        for (int i = 0; i < 5; i++) {
            x.thing(i == 4 ? 5 : i, 0);
        }
        Check.due("nothing torn", x.mends(99999, 0), 0);
        x.set(1, 0, 3);
        x.set(1, 1, 2);
        x.set(1, 2, 2);
        x.set(1, 4, 1);
        Check.told(x, 0, "mend torn*10;", 1);
        // 60, 30, 30, -, 10
        Check.due("sum 9", x.mends(9, 0), 0);
        Check.due("sum 10", x.mends(10, 1), 16);
        Check.due("sum 40: the least thing", x.mends(40, 1), 18);
        Check.due("sum 69", x.mends(69, 2), 40);
        Check.due("sum 70", x.mends(70, 0), 3);
        Check.due("sum 70", x.mends(70, 1), 22);
        Check.due("sum 70", x.mends(70, 2), 70);
        Check.due("sum 129", x.mends(129, 0), 3);
        Check.due("sum 130", x.mends(130, 1), 23);
        Check.due("sum -1", x.mends(-1, 0), -1);
        Check.due("sum 100000", x.mends(100000, 0), -1);
        Check.due("sum 99999", x.mends(99999, 2), 130);
        Check.due("what 3", x.mends(0, 3), -1);
        Check.due("what -1", x.mends(0, -1), -1);
        x.put(1, 14, 0);
        x.hire(4, 1, 0);
        Check.due("without what is out", x.mends(99999, 1), 5);
        Check.due("nothing was done", x.of(0, 3), 3);
        Check.told(x, 0, "mend 0;", 1);
        Check.due("for nothing", x.mends(0, 1), 5);
    }

    private static void earns() {
        CostumeStock x = new CostumeStock();
        x.thing(0, 0);
        x.thing(1, 0);
        Check.due("no wishes", x.earns(0), 0);
        Check.due("no wishes", x.earns(1), 0);
        Check.due("earns(2)", x.earns(2), -1);
        Check.due("earns(-1)", x.earns(-1), -1);
        x.wish(0, 0, 5, 10);
        x.wish(0, 5, 5, 10);
        x.wish(0, 4, 2, 20);
        Check.due("20 either way", x.earns(0), 20);
        Check.due("the least set", x.earns(1), 3);
        x.wish(0, 3, 1, 1);
        Check.due("21 with one more", x.earns(0), 21);
        Check.due("its set", x.earns(1), 12);
        x.wish(1, 4, 2, 5);
        x.wish(1, 6, 2, 0);
        Check.due("another thing", x.earns(0), 26);
        Check.due("nothing for what pays nothing", x.earns(1), 12 + 16);
        x.wish(-1, 0, 0, 0);
        for (int i = 0; i < 10; i++) {
            x.wish(1, i * 10, 10, 9999);
        }
        Check.due("all ten", x.earns(0), 99990);
        Check.due("all ten", x.earns(1), 1023);
    }

    private static void share() {
        CostumeStock x = new CostumeStock();
        x.set(4, 0, 23);
        int[] due = {3, 3, 3, 3, 3, 3, 3, 2};
        for (int i = 0; i < 8; i++) {
            Check.due("share(8, i)", x.share(8, i), due[i]);
        }
        Check.due("share(1, 0)", x.share(1, 0), 23);
        Check.due("share(0, 0)", x.share(0, 0), -1);
        Check.due("share(9, 0)", x.share(9, 0), -1);
        Check.due("share(2, 2)", x.share(2, 2), -1);
        Check.due("share(2, -1)", x.share(2, -1), -1);
        x.set(4, 0, Integer.MAX_VALUE);
        Check.due("share of the most", x.share(8, 6), 268435456);
        Check.due("share of the most", x.share(8, 7), 268435455);
        x.set(4, 0, 0);
        Check.due("share of nothing", x.share(8, 0), 0);
        x.set(4, 0, Integer.MIN_VALUE);
        Check.due("share of debts", x.share(8, 0), 0);
        Check.due("share of debts by rank 8", x.share(8, 8), -1);
    }
}
