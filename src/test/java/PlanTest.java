/** Promises 28 and 36: the plan of least cost, what is proved of it, and what could be worn instead. */
public final class PlanTest {
    public static void main(String[] args) {
        noScenes();
        whatCouldBeThere();
        noneTwice();
        quickChange();
        changeIsOfWhatIsTakenOff();
        handedOver();
        firstOfSeveral();
        bound();
        insteadAndElse();
        swaps();
        scenesApart();
        nothingStays();
        largest();
        Check.finish();
    }

    private static void plan(CostumeStock x, String of, int... things) {
        for (int i = 0; i < things.length; i++) {
            Check.due(of + ": plan(1" + i + ")", x.plan(10 + i), things[i]);
        }
    }

    private static CostumeStock house(int[] kinds, int[] made, int... bodies) {
        return Houses.stage(20, kinds, made, bodies);
    }

    private static void noScenes() {
        CostumeStock x = new CostumeStock();
        x.thing(0, 0);
        int[] none = {-1, 2, 9, 10, 15, 21, 26, 30, 35, 40, 45, 51, 66, 100, Integer.MIN_VALUE, Integer.MAX_VALUE};
        for (int what : none) {
            Check.due("plan(" + what + ")", x.plan(what), -1);
        }
        Check.due("cost", x.plan(0), 0);
        Check.due("changes", x.plan(1), 0);
        Check.due("bound", x.plan(20), 0);
        Check.due("uses", x.plan(50), 0);
        Check.due("swaps(0)", x.swaps(0), 0);
        for (int what : new int[] {1, 2, 3, 4, -1}) {
            Check.due("swaps(" + what + ")", x.swaps(what), -1);
        }
        Check.told(x, 2, "scene 1;scene 2;", 2);
        Check.due("scenes without wears", x.plan(0), 0);
    }

    private static void whatCouldBeThere() {
        CostumeStock x = house(new int[] {0, 1, 2, 3, 4, 5}, new int[] {51, 52, 53, 54, 55, 0}, 50);
        String[] kinds = {"dress", "coat", "uniform", "mask", "set"};
        for (int kind = 0; kind < 5; kind++) {
            Check.told(x, 2, "scene 1 wear 0 " + kinds[kind] + ";", 1);
            plan(x, kinds[kind], kind);
            Check.due("cost", x.plan(0), kind + 1);
        }
        Check.told(x, 2, "scene 1 wear 0 dress;", 1);
        x.set(1, 0, 4);
        plan(x, "torn 4", 0);
        x.set(1, 0, 5);
        plan(x, "torn 5", 1);
        x.put(1, 15, 0);
        plan(x, "in a trunk", 1);
        x.hire(5, 1, 0);
        plan(x, "in a trunk that is out", 2);
        x.measure(false, 2, 1, 9);
        plan(x, "open to him", 2);
        x.measure(false, 2, 0, 71);
        Check.due("none", x.plan(0), -1);
        Check.due("no thing of a wear", x.plan(10), -1);
        Check.due("no changes", x.plan(1), -1);
        Check.due("no bound", x.plan(20), -1);
        Check.due("bound behind all", x.plan(21), 0);
        Check.due("no instead", x.plan(30), -1);
        Check.due("no else", x.plan(40), -1);
        Check.due("no uses", x.plan(50), -1);
        Check.due("no swaps", x.swaps(0), -1);
        x.back(5, 0);
        plan(x, "back again", 1);
    }

    private static void noneTwice() {
        CostumeStock x = house(new int[] {0, 0, 0}, new int[] {50, 60, 55}, 50, 50);
        Check.told(x, 2, "scene 0 wear 0 dress wear 1 dress;", 1);
        Check.due("cost", x.plan(0), 5);
        plan(x, "two of one measure", 0, 2);
        Check.due("bound is below it", x.plan(20), 0);
        Check.due("instead of 0", x.plan(30), 2);
        Check.due("instead of 1", x.plan(31), 2);
        Check.due("else of 0", x.plan(40), 5);
        Check.due("else of 1", x.plan(41), 5);
        x.hire(1, 1, 0);
        x.hire(2, 1, 0);
        Check.due("one for two", x.plan(0), -1);
        Check.due("bound though there is none", x.plan(20), 0);
        Check.due("bound of the last", x.plan(21), 0);
    }

    private static void quickChange() {
        CostumeStock x = house(new int[] {0, 3, 2}, new int[] {50, 50, 54}, 50);
        Check.told(x, 2, "scene 2 wear 0 dress;scene 9 wear 0 mask;", 2);
        Check.due("3 minutes without a law", x.plan(0), -1);
        Check.told(x, 2, "scene 3 wear 0 dress;scene 0 wear 0 mask;", 2);
        Check.due("3 minutes are enough", x.plan(0), 0);
        Check.due("one change", x.plan(1), 1);
        Check.told(x, 1, "change 4;", 1);
        Check.due("4 minutes are not there", x.plan(0), -1);
        Check.told(x, 1, "change 4 when next=3;change 0;", 2);
        Check.due("4 minutes for a mask", x.plan(0), -1);
        Check.told(x, 1, "change 4 when next=2;change 3;", 2);
        Check.due("3 minutes for a mask", x.plan(0), 0);
        Check.told(x, 2, "scene 3 wear 0 dress;scene 3 wear 0 coat;scene 3 wear 0 mask;", 3);
        Check.due("he keeps the uniform on", x.plan(0), 8);
        plan(x, "kept on", 2, 2, 1);
        Check.due("changes", x.plan(1), 1);
        Check.due("uses", x.plan(52), 3);
        Check.told(x, 1, "change 9999;", 1);
        Check.told(x, 2, "scene 99 wear 0 dress;scene 3 wear 0 dress;", 2);
        Check.due("no change is asked", x.plan(0), 0);
        Check.due("no changes", x.plan(1), 0);
    }

    private static void changeIsOfWhatIsTakenOff() {
        CostumeStock x = house(new int[] {0, 3}, new int[] {50, 50}, 50);
        x.set(3, 0, 7);
        x.set(3, 1, 1);
        Check.told(x, 1, "change lets*10+next;", 1);
        Check.told(x, 2, "scene 72 wear 0 dress;scene 0 wear 0 mask;", 2);
        Check.due("too quick", x.plan(0), -1);
        Check.told(x, 2, "scene 73 wear 0 dress;scene 0 wear 0 mask;", 2);
        Check.due("quick enough", x.plan(0), 0);
        Check.told(x, 2, "scene 9 wear 0 mask;scene 0 wear 0 dress;", 2);
        Check.due("too quick the other way", x.plan(0), -1);
        Check.told(x, 2, "scene 10 wear 0 mask;scene 0 wear 0 dress;", 2);
        Check.due("quick enough the other way", x.plan(0), 0);
    }

    private static void handedOver() {
        CostumeStock x = house(new int[] {2, 0}, new int[] {50, 58}, 50, 50);
        Check.told(x, 2, "scene 5 wear 0 dress;scene 5 wear 1 dress;", 2);
        Check.due("twice 3 minutes are not there", x.plan(0), 8);
        plan(x, "not handed over", 0, 1);
        Check.told(x, 2, "scene 6 wear 0 dress;scene 5 wear 1 dress;", 2);
        Check.due("twice 3 minutes", x.plan(0), 0);
        plan(x, "handed over", 0, 0);
        Check.due("no change of an actor", x.plan(1), 0);
        Check.told(x, 1, "change 4 when next=2;change 3;", 2);
        Check.due("next is its own kind", x.plan(0), 8);
        Check.told(x, 1, "change 999;", 1);
        Check.told(x, 2, "scene 1 wear 0 dress;scene 1;scene 1 wear 1 dress;", 3);
        Check.due("with a scene between", x.plan(0), 0);
    }

    private static void firstOfSeveral() {
        CostumeStock x = house(new int[] {0, 0, 0}, new int[] {48, 52, 48}, 50, 50);
        Check.told(x, 2, "scene 0 wear 0 dress wear 1 dress;", 1);
        plan(x, "the lesser things", 0, 1);
        Check.due("instead of 0", x.plan(30), 4);
        Check.due("instead of 1", x.plan(31), 4);
        Check.due("else", x.plan(40), 4);
        x.measure(false, 0, 0, 47);
        plan(x, "the cheaper ones", 1, 2);
        Check.due("else", x.plan(40), 4);
    }

    private static void bound() {
        CostumeStock x = house(new int[] {0, 3}, new int[] {50, 50}, 53, 51, 58);
        Check.told(x, 2, "scene 9 wear 0 dress wear 1 mask;scene 9 wear 2 dress;scene 9;", 3);
        int[] due = {12, 9, 8, 0};
        for (int i = 0; i < 4; i++) {
            Check.due("bound of " + i, x.plan(20 + i), due[i]);
        }
        Check.due("bound behind", x.plan(24), -1);
        x.hire(1, 1, 0);
        Check.due("no thing for wear 1", x.plan(20), -1);
        Check.due("no thing for wear 1", x.plan(21), -1);
        Check.due("from wear 2 on", x.plan(22), 8);
    }

    private static void insteadAndElse() {
        CostumeStock x = house(new int[] {0, 1, 0, 2}, new int[] {50, 55, 45, 60}, 50, 56);
        Check.told(x, 2, "scene 9 wear 0 dress wear 1 coat;scene 1 wear 0 dress;", 2);
        plan(x, "plan", 0, 1, 0);
        Check.due("cost", x.plan(0), 1);
        Check.due("instead of wear 0", x.plan(30), 12);
        Check.due("instead of wear 1", x.plan(31), 8);
        // 9 minutes are enough to change and to hand over: all others but the one there
        Check.due("instead of wear 2", x.plan(32), 14);
        Check.due("else of wear 0", x.plan(40), 6);
        Check.due("else of wear 1", x.plan(41), 4);
        Check.due("else of wear 2", x.plan(42), 6);
        Check.due("else of no wear", x.plan(43), -1);
        Check.due("uses of 0", x.plan(50), 5);
        Check.due("uses of 1", x.plan(51), 2);
        Check.due("uses of 3", x.plan(53), 0);
        Check.due("uses of no thing", x.plan(54), -1);
        x.hire(3, 1, 0);
        Check.due("no else", x.plan(41), -1);
        Check.due("no instead", x.plan(31), 0);
    }

    private static void swaps() {
        CostumeStock x = house(new int[] {0, 0, 3}, new int[] {50, 60, 50}, 51, 59, 50);
        Check.told(x, 2, "scene 99 wear 0 dress wear 1 dress wear 2 mask;", 1);
        plan(x, "plan", 0, 1, 2);
        Check.due("cost", x.plan(0), 2);
        Check.due("swaps", x.swaps(0), 1);
        Check.due("i", x.swaps(1), 0);
        Check.due("j", x.swaps(2), 1);
        Check.due("its cost", x.swaps(3), 18);
        Check.due("what 4", x.swaps(4), -1);
        Check.due("what -1", x.swaps(-1), -1);
        x.set(3, 0, 5);
        Check.due("one does not fit", x.swaps(0), 0);
        Check.due("no i", x.swaps(1), -1);
        Check.due("no j", x.swaps(2), -1);
        Check.due("no cost", x.swaps(3), -1);
        CostumeStock y = house(new int[] {0, 0}, new int[] {50, 50}, 50, 50);
        Check.told(y, 2, "scene 2 wear 0 dress;scene 2 wear 0 dress wear 1 dress;", 2);
        plan(y, "plan", 0, 0, 1);
        // 0 and 1 have one thing; 0 and 2 would change him too quickly; 1 and 2 too
        Check.due("no swaps", y.swaps(0), 0);
        Check.told(y, 1, "change 1;", 1);
        Check.due("1 and 2 alone: 0 and 2 would be one thing twice", y.swaps(0), 1);
        Check.due("i", y.swaps(1), 1);
        Check.due("j", y.swaps(2), 2);
    }

    private static void scenesApart() {
        CostumeStock x = house(new int[] {0, 3}, new int[] {50, 50}, 50);
        Check.told(x, 2, "scene 0 wear 0 dress;scene 0;scene 0 wear 0 mask;", 3);
        Check.due("no change with a scene between", x.plan(0), 0);
        Check.due("no changes", x.plan(1), 0);
    }

    private static void nothingStays() {
        CostumeStock x = house(new int[] {0, 0}, new int[] {50, 55}, 54);
        Check.told(x, 2, "scene 0 wear 0 dress;", 1);
        x.put(0, 0, 0);
        Check.due("plan", x.plan(10), 1);
        Check.due("now", x.at(1, 0, 1), 55);
        Check.due("purse", x.look(4), 0);
        x.alter(0, 0);
        Check.due("as it is now", x.plan(10), 0);
        x.undo();
        Check.due("undone", x.plan(10), 1);
        Check.told(x, 0, "cost 9 when out=0;", 1);
        Check.due("another law", x.plan(10), 0);
        x.measure(true, 0, 0, 55);
        Check.due("another body", x.plan(10), 1);
        x.image(true);
        x.set(1, 1, 9);
        Check.due("torn", x.plan(10), 0);
        x.image(false);
        Check.due("the image", x.plan(10), 1);
        x.thing(2, 0);
        x.measure(false, 2, 0, 55);
        x.set(1, 1, 9);
        Check.due("a new thing", x.plan(10), 2);
        Check.due("else while the plan is known", x.plan(40), 5);
        Check.due("the plan stays", x.plan(10), 2);
        Check.due("its cost stays", x.plan(0), 0);
    }

    /** Six actors and sixteen things, one of which all want: the search must end soon. */
    private static void largest() {
        CostumeStock x = new CostumeStock();
        for (int i = 0; i < 16; i++) {
            x.thing(0, 20);
            x.measure(false, i, 0, i == 0 ? 50 : 49);
        }
        for (int i = 0; i < 6; i++) {
            x.actor();
            x.measure(true, i, 0, 50);
        }
        Check.told(x, 2, "scene 0 wear 0 dress wear 1 dress wear 2 dress wear 3 dress wear 4 dress wear 5 dress;", 1);
        Check.due("cost", x.plan(0), 5);
        plan(x, "largest", 0, 1, 2, 3, 4, 5);
        Check.due("bound", x.plan(20), 0);
        Check.due("else of 0", x.plan(40), 5);
        Check.due("instead of 5", x.plan(35), 65535 - 63);
        Check.due("uses of 15", x.plan(65), 0);
        Check.due("uses of 16", x.plan(66), -1);
        Check.due("swaps", x.swaps(0), 15);
        Check.due("cost of the first", x.swaps(3), 5);
    }
}
