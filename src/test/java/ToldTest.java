/** Promises 1 to 7, 20, 21, 26, 37 and 42: what is told, and what is. */
public final class ToldTest {
    public static void main(String[] args) {
        empty();
        state();
        things();
        actorsAndRacks();
        measures();
        sets();
        suits();
        wishes();
        looks();
        Check.finish();
    }

    private static void empty() {
        CostumeStock x = new CostumeStock();
        for (int what = 0; what <= 13; what++) {
            Check.due("look(" + what + ") of a new one", x.look(what), 0);
        }
        Check.due("fault(0)", x.fault(0), 0);
        Check.due("fault(1)", x.fault(1), -1);
        Check.due("undo()", x.undo(), false);
        Check.due("image(false)", x.image(false), false);
        Check.due("book(0, 0)", x.book(0, 0), -1000000);
        Check.due("slot(0, 0)", x.slot(0, 0), -2);
        Check.due("of(0, 0)", x.of(0, 0), -2);
        Check.due("dresses(0)", x.dresses(0), 0);
        Check.due("dresses(1)", x.dresses(1), -1);
        Check.due("share(1, 0)", x.share(1, 0), 0);
    }

    private static void state() {
        CostumeStock x = new CostumeStock();
        Check.due("state(7)", x.state(7), 0);
        Check.due("state(-9)", x.state(-9), 7);
        Check.due("look(6)", x.look(6), -9);
        Check.due("state(0)", x.state(0), -9);
    }

    private static void things() {
        CostumeStock x = new CostumeStock();
        Check.due("thing(-1, 0)", x.thing(-1, 0), -1);
        Check.due("thing(6, 0)", x.thing(6, 0), -1);
        Check.due("thing(0, -1)", x.thing(0, -1), -1);
        Check.due("thing(0, 21)", x.thing(0, 21), -1);
        for (int i = 0; i < 16; i++) {
            Check.due("thing", x.thing(i % 6, i), i);
        }
        Check.due("a 17th thing", x.thing(0, 0), -1);
        Check.due("look(0)", x.look(0), 16);
        for (int i = 0; i < 16; i++) {
            Check.due("of(i, 0)", x.of(i, 0), i % 6);
            Check.due("of(i, 1)", x.of(i, 1), i);
            for (int what = 2; what <= 4; what++) {
                Check.due("of(i, 2 .. 4)", x.of(i, what), 0);
            }
            for (int what = 5; what <= 7; what++) {
                Check.due("of(i, 5 .. 7)", x.of(i, what), -1);
            }
            Check.due("of(i, 8)", x.of(i, 8), 0);
            Check.due("of(i, 9)", x.of(i, 9), 0);
            Check.due("of(i, 10)", x.of(i, 10), i % 6 == 5 ? 1 : 0);
        }
        Check.due("of(16, 0)", x.of(16, 0), -2);
        Check.due("of(-1, 0)", x.of(-1, 0), -2);
        Check.due("of(0, 11)", x.of(0, 11), -2);
        Check.due("of(0, -1)", x.of(0, -1), -2);
    }

    private static void actorsAndRacks() {
        CostumeStock x = new CostumeStock();
        for (int i = 0; i < 6; i++) {
            Check.due("actor()", x.actor(), i);
        }
        Check.due("a 7th actor", x.actor(), -1);
        Check.due("look(1)", x.look(1), 6);
        Check.due("rack(0)", x.rack(0), -1);
        Check.due("rack(9)", x.rack(9), -1);
        Check.due("rack(-1)", x.rack(-1), -1);
        int[] slots = {1, 8, 3, 5};
        for (int i = 0; i < 4; i++) {
            Check.due("rack", x.rack(slots[i]), i);
        }
        Check.due("a 5th rack", x.rack(1), -1);
        Check.due("look(2)", x.look(2), 4);
        for (int i = 0; i < 4; i++) {
            Check.due("look(20 + r)", x.look(20 + i), slots[i]);
            Check.due("slot(r, last)", x.slot(i, slots[i] - 1), -1);
            Check.due("slot(r, behind)", x.slot(i, slots[i]), -2);
        }
        Check.due("look(24)", x.look(24), -1000000);
    }

    private static void measures() {
        CostumeStock x = new CostumeStock();
        x.thing(0, 9);
        x.thing(5, 9);
        x.actor();
        Check.due("measure of a thing", x.measure(false, 0, 4, 99), true);
        Check.due("at made", x.at(0, 4, 0), 99);
        Check.due("at now", x.at(0, 4, 1), 99);
        Check.due("at another what", x.at(0, 4, 2), -1);
        Check.due("at what -1", x.at(0, 4, -1), -1);
        Check.due("at measure 5", x.at(0, 5, 0), -1);
        Check.due("at measure -1", x.at(0, -1, 0), -1);
        Check.due("at thing 2", x.at(2, 0, 0), -1);
        Check.due("at a trunk", x.at(1, 0, 0), -1);
        Check.due("at a missing one", x.at(0, 0, 0), 0);
        Check.due("measure of an actor", x.measure(true, 0, 0, 1), true);
        Check.due("body", x.body(0, 0), 1);
        Check.due("body missing", x.body(0, 1), 0);
        Check.due("body measure 5", x.body(0, 5), -1);
        Check.due("body measure -1", x.body(0, -1), -1);
        Check.due("body of no actor", x.body(1, 0), -1);
        Check.due("body of actor -1", x.body(-1, 0), -1);
        Check.due("measure missing again", x.measure(true, 0, 0, 0), true);
        Check.due("body", x.body(0, 0), 0);
        Check.due("measure 100", x.measure(false, 0, 0, 100), false);
        Check.due("measure -1", x.measure(false, 0, 0, -1), false);
        Check.due("measure number 5", x.measure(false, 0, 5, 1), false);
        Check.due("measure number -1", x.measure(true, 0, -1, 1), false);
        Check.due("measure of a trunk", x.measure(false, 1, 0, 1), false);
        Check.due("measure of no thing", x.measure(false, 2, 0, 1), false);
        Check.due("measure of thing -1", x.measure(false, -1, 0, 1), false);
        Check.due("measure of no actor", x.measure(true, 1, 0, 1), false);
        Check.due("at unchanged", x.at(0, 0, 0), 0);
        x.measure(false, 0, 0, 50);
        x.measure(true, 0, 0, 55);
        x.alter(0, 0);
        Check.due("now as altered", x.at(0, 0, 1), 55);
        x.measure(false, 0, 0, 40);
        Check.due("made told anew", x.at(0, 0, 0), 40);
        Check.due("now told anew", x.at(0, 0, 1), 40);
    }

    private static void sets() {
        CostumeStock x = new CostumeStock();
        x.thing(0, 1);
        x.thing(5, 1);
        int[] most = {9, 9, 999, 20};
        int[] where = {2, 3, 4, 1};
        for (int what = 0; what < 4; what++) {
            Check.due("set most", x.set(what, 0, most[what]), true);
            Check.due("of most", x.of(0, where[what]), most[what]);
            Check.due("set more", x.set(what, 0, most[what] + 1), false);
            Check.due("set less than 0", x.set(what, 0, -1), false);
            Check.due("of most yet", x.of(0, where[what]), most[what]);
            Check.due("set 0", x.set(what, 0, 0), true);
            Check.due("of 0", x.of(0, where[what]), 0);
            Check.due("set of no thing", x.set(what, 2, 0), false);
            Check.due("set of thing -1", x.set(what, -1, 0), false);
        }
        Check.due("set dirt of a trunk", x.set(0, 1, 3), true);
        Check.due("of dirt of a trunk", x.of(1, 2), 3);
        Check.due("set purse", x.set(4, 99, Integer.MIN_VALUE), true);
        Check.due("look(4)", x.look(4), Integer.MIN_VALUE);
        Check.due("set what 5", x.set(5, 0, 0), false);
        Check.due("set what -1", x.set(-1, 0, 0), false);
    }

    private static void suits() {
        CostumeStock x = new CostumeStock();
        int[][] suits = {{1, 0, 0, 0, 0, 0}, {1, 1, 0, 0, 0, 0}, {1, 1, 1, 0, 0, 0},
            {0, 0, 0, 1, 0, 0}, {0, 0, 0, 0, 1, 0}, {0, 0, 0, 0, 0, 1}};
        for (int own = 0; own < 6; own++) {
            x.thing(own, 0);
            for (int kind = 0; kind < 6; kind++) {
                Check.due("suits(" + own + ", " + kind + ")", x.suits(own, kind), suits[own][kind]);
            }
        }
        Check.due("suits(0, 6)", x.suits(0, 6), -1);
        Check.due("suits(0, -1)", x.suits(0, -1), -1);
        Check.due("suits(6, 0)", x.suits(6, 0), -1);
        Check.due("suits(-1, 0)", x.suits(-1, 0), -1);
    }

    private static void wishes() {
        CostumeStock x = new CostumeStock();
        x.thing(5, 0);
        Check.due("wish for no thing", x.wish(1, 0, 1, 0), -1);
        Check.due("wish for thing -2", x.wish(-2, 0, 1, 0), -1);
        Check.due("wish day -1", x.wish(0, -1, 1, 0), -1);
        Check.due("wish day 10000", x.wish(0, 10000, 1, 0), -1);
        Check.due("wish n 0", x.wish(0, 0, 0, 0), -1);
        Check.due("wish n 100", x.wish(0, 0, 100, 0), -1);
        Check.due("wish pays -1", x.wish(0, 0, 1, -1), -1);
        Check.due("wish pays 10000", x.wish(0, 0, 1, 10000), -1);
        Check.due("look(13)", x.look(13), 0);
        for (int i = 1; i <= 10; i++) {
            Check.due("wish", x.wish(0, 9999, 99, 9999), i);
        }
        Check.due("an 11th wish", x.wish(0, 0, 1, 0), -1);
        Check.due("look(13)", x.look(13), 10);
        Check.due("wish NONE", x.wish(-1, 77777, 0, -5), 0);
        Check.due("look(13)", x.look(13), 0);
        Check.due("wish again", x.wish(0, 0, 1, 0), 1);
    }

    private static void looks() {
        CostumeStock x = new CostumeStock();
        x.rack(1);
        Check.tell(x, 2, "scene 7; scene 99;");
        Check.due("look(30)", x.look(30), 7);
        Check.due("look(31)", x.look(31), 99);
        int[] none = {-1, 14, 19, 21, 24, 29, 32, 36, 100, Integer.MIN_VALUE, Integer.MAX_VALUE};
        for (int what : none) {
            Check.due("look(" + what + ")", x.look(what), -1000000);
        }
    }
}
