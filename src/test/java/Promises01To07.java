/** Promises 1 to 7, sentence by sentence: a new object, and what is told. */
final class Promises01To07 extends Promises {
    private static final int FARTHEST_BELOW = Integer.MIN_VALUE;
    private static final int FARTHEST_ABOVE = Integer.MAX_VALUE;

    static void all() {
        promise1();
        promise2();
        promise3();
        promise3ofEach();
        promise4();
        promise5();
        promise6();
        promise6refused();
        promise7();
        promise7purse();
    }

    private static void promise1() {
        sentence(1, "An empty house.", () -> {
            CostumeStock x = new CostumeStock();
            for (int what = 0; what <= 13; what++) {
                due("look(" + what + ")", x.look(what), 0);
            }
            due("no thing", x.of(0, 0), NO_SUCH);
            due("no actor", x.body(0, 0), NONE);
            due("no rack", x.slot(0, 0), NO_SUCH);
            due("no trunk", x.slot(10, 0), NO_SUCH);
            due("no line", x.book(0, 0), NO_LINE);
            due("no wear", x.wear(0, 0), NONE);
            due("nothing to undo", x.undo(), false);
            due("no image", x.image(false), false);
            due("no byte", x.end(1), false);
        });
        sentence(1, "An empty house.", () -> {
            Houses.busy();
            Trace.same("a house beside a busy one has", new CostumeStock(), new CostumeStock());
            CostumeStock x = new CostumeStock();
            CostumeStock y = new CostumeStock();
            x.thing(0, 0);
            x.actor();
            x.set(4, 0, 9);
            Trace.same("a house beside another has", y, new CostumeStock());
        });
        sentence(1, "An object is used for at most 512 calls after it has been made;", () -> {
            CostumeStock x = new CostumeStock();
            for (int call = 1; call <= 511; call++) {
                due("call " + call, x.state(call), call - 1);
            }
            due("the 512th", x.look(6), 511);
        });
        sentence(1, "The constants: `NONE = -1`: None.", () -> due("NONE", CostumeStock.NONE, -1));
        sentence(1, "TEXTS (empty at first).", () -> {
            CostumeStock x = Houses.small();
            due("lines of altering", x.look(7), 0);
            due("lines of days", x.look(8), 0);
            due("scenes", x.look(9), 0);
            due("cost without a law", x.cost(0, 0), 3);
        });
        sentence(1, "PURSE (0 at first; an int), DAY 0 .. 9999 (0 at first).", () -> {
            CostumeStock x = new CostumeStock();
            due("purse", x.look(4), 0);
            due("day", x.look(3), 0);
        });
    }

    private static void promise2() {
        sentence(2, "STATE is told: what it was.", () -> {
            CostumeStock x = new CostumeStock();
            due("state(5)", x.state(5), 0);
            due("state(6)", x.state(6), 5);
            due("it stays", x.look(6), 6);
        });
        sentence(2, "STATE of draws (an int, 0 at first);", () -> {
            CostumeStock x = new CostumeStock();
            due("at first", x.look(6), 0);
            due("the least int", x.state(FARTHEST_BELOW), 0);
            due("is told", x.look(6), FARTHEST_BELOW);
            due("the greatest int", x.state(FARTHEST_ABOVE), FARTHEST_BELOW);
            due("is told", x.look(6), FARTHEST_ABOVE);
            due("-1", x.state(-1), FARTHEST_ABOVE);
            due("is told", x.state(0), -1);
        });
    }

    private static void promise3() {
        sentence(3, "A THING: the number;", () -> {
            CostumeStock x = new CostumeStock();
            due("the first", x.thing(3, 1), 0);
            due("the second", x.thing(5, 2), 1);
            due("how many", x.look(0), 2);
        });
        sentence(3, "THINGS 0 .. 15 as they come:", () -> {
            CostumeStock x = new CostumeStock();
            for (int i = 0; i < 16; i++) {
                due("there is none yet", x.of(i, 0), NO_SUCH);
                due("as they come", x.thing(i % 6, i), i);
                due("there it is", x.of(i, 0), i % 6);
            }
        });
        sentence(3, "KIND 0 dress, 1 coat, 2 uniform, 3 mask, 4 set, 5 trunk.", () -> {
            CostumeStock x = new CostumeStock();
            for (int kind = 0; kind <= 5; kind++) {
                due("thing of kind " + kind, x.thing(kind, 0), kind);
                due("its kind", x.of(kind, 0), kind);
            }
            refused("thing(-1, 0)", Houses::busy, y -> y.thing(-1, 0), NONE);
            refused("thing(6, 0)", Houses::busy, y -> y.thing(6, 0), NONE);
            refused("thing(least, 0)", Houses::busy, y -> y.thing(FARTHEST_BELOW, 0), NONE);
            refused("thing(greatest, 0)", Houses::busy, y -> y.thing(FARTHEST_ABOVE, 0), NONE);
        });
        sentence(3, "LETS 0 .. 20;", () -> {
            CostumeStock x = new CostumeStock();
            due("lets 0", x.thing(0, 0), 0);
            due("lets 20", x.thing(0, 20), 1);
            due("0", x.of(0, 1), 0);
            due("20", x.of(1, 1), 20);
            refused("thing(0, -1)", Houses::busy, y -> y.thing(0, -1), NONE);
            refused("thing(0, 21)", Houses::busy, y -> y.thing(0, 21), NONE);
            refused("thing(0, least)", Houses::busy, y -> y.thing(0, FARTHEST_BELOW), NONE);
            refused("thing(0, greatest)", Houses::busy, y -> y.thing(0, FARTHEST_ABOVE), NONE);
        });
        sentence(3, "NONE if one can't be, or there are sixteen.", () -> {
            refused("both wrong", Houses::busy, x -> x.thing(6, 21), NONE);
            CostumeStock x = Houses.full();
            due("there are sixteen", x.look(0), 16);
            refused("the 17th", Houses::full, y -> y.thing(0, 0), NONE);
            refused("the 17th, a trunk", Houses::full, y -> y.thing(5, 0), NONE);
        });
    }

    private static void promise3ofEach() {
        sentence(3, "Of each but a trunk: MEASURES 0 .. 4, each 1 .. 99 or missing (0), as MADE and as it is NOW (alike at first),",
            () -> {
                CostumeStock x = new CostumeStock();
                x.thing(0, 0);
                x.thing(5, 0);
                for (int measure = 0; measure < 5; measure++) {
                    due("made, missing", x.at(0, measure, 0), 0);
                    due("now, missing", x.at(0, measure, 1), 0);
                    due("a trunk has none made", x.at(1, measure, 0), NONE);
                    due("a trunk has none now", x.at(1, measure, 1), NONE);
                }
            });
        sentence(3, "of each DIRT, TORN 0 .. 9, WORN 0 .. 999 (0 at first).", () -> {
            CostumeStock x = new CostumeStock();
            for (int kind = 0; kind <= 5; kind++) {
                x.thing(kind, 7);
                due("dirt", x.of(kind, 2), 0);
                due("torn", x.of(kind, 3), 0);
                due("worn", x.of(kind, 4), 0);
            }
        });
        sentence(3, "A THING is in a SLOT of a HOLDER, OUT (on hire), or ASIDE (at first).", () -> {
            CostumeStock x = new CostumeStock();
            for (int kind = 0; kind <= 5; kind++) {
                x.thing(kind, 0);
                due("no holder", x.of(kind, 5), NONE);
                due("no slot", x.of(kind, 6), NONE);
                due("no due", x.of(kind, 7), NONE);
                due("not out", x.of(kind, 8), 0);
            }
        });
    }

    private static void promise4() {
        sentence(4, "An ACTOR, all MEASURES missing: the number;", () -> {
            CostumeStock x = new CostumeStock();
            due("the first", x.actor(), 0);
            due("the second", x.actor(), 1);
            for (int measure = 0; measure < 5; measure++) {
                due("missing", x.body(0, measure), 0);
                due("missing", x.body(1, measure), 0);
            }
        });
        sentence(4, "ACTORS 0 .. 5 as they come:", () -> {
            CostumeStock x = new CostumeStock();
            for (int i = 0; i < 6; i++) {
                due("there is none yet", x.body(i, 0), NONE);
                due("as they come", x.actor(), i);
                due("there he is", x.body(i, 0), 0);
                due("how many", x.look(1), i + 1);
            }
        });
        sentence(4, "NONE if there are six.", () -> {
            due("there are six", Houses.full().look(1), 6);
            refused("the 7th", Houses::full, CostumeStock::actor, NONE);
        });
    }

    private static void promise5() {
        sentence(5, "A RACK: the number;", () -> {
            CostumeStock x = new CostumeStock();
            due("the first", x.rack(2), 0);
            due("the second", x.rack(5), 1);
            due("slots of the first", x.look(20), 2);
            due("slots of the second", x.look(21), 5);
        });
        sentence(5, "RACKS 0 .. 3 as they come: 1 .. 8 SLOTS;", () -> {
            CostumeStock x = new CostumeStock();
            int[] slots = {1, 8, 8, 1};
            for (int i = 0; i < 4; i++) {
                due("there is none yet", x.slot(i, 0), NO_SUCH);
                due("as they come", x.rack(slots[i]), i);
                due("its last slot", x.slot(i, slots[i] - 1), NONE);
                due("behind it", x.slot(i, slots[i]), NO_SUCH);
            }
            refused("rack(0)", Houses::busy, y -> y.rack(0), NONE);
            refused("rack(9)", Houses::busy, y -> y.rack(9), NONE);
            refused("rack(-1)", Houses::busy, y -> y.rack(-1), NONE);
            refused("rack(least)", Houses::busy, y -> y.rack(FARTHEST_BELOW), NONE);
            refused("rack(greatest)", Houses::busy, y -> y.rack(FARTHEST_ABOVE), NONE);
        });
        sentence(5, "NONE if one can't be, or there are four.", () -> {
            due("there are four", Houses.full().look(2), 4);
            refused("the 5th", Houses::full, x -> x.rack(1), NONE);
            refused("the 5th, that can't be", Houses::full, x -> x.rack(0), NONE);
        });
    }

    private static void promise6() {
        sentence(6, "A MEASURE (0: missing) of THING who (actor false; as MADE and NOW), or ACTOR who: true;", () -> {
            CostumeStock x = Houses.small();
            due("of the thing", x.measure(false, 0, 2, 40), true);
            due("made", x.at(0, 2, 0), 40);
            due("now", x.at(0, 2, 1), 40);
            due("not the actor's", x.body(0, 2), 0);
            due("of the actor", x.measure(true, 0, 2, 41), true);
            due("the actor's", x.body(0, 2), 41);
            due("not the thing's", x.at(0, 2, 0), 40);
            due("missing", x.measure(false, 0, 2, 0), true);
            due("made missing", x.at(0, 2, 0), 0);
            due("now missing", x.at(0, 2, 1), 0);
            due("the actor's missing", x.measure(true, 0, 2, 0), true);
            due("missing", x.body(0, 2), 0);
        });
        sentence(6, "as MADE and NOW", () -> {
            CostumeStock x = Houses.small();
            x.alter(0, 0);
            due("now altered", x.at(0, 0, 1), 53);
            x.measure(false, 0, 1, 7);
            due("another measure does not touch it", x.at(0, 0, 1), 53);
            x.measure(false, 0, 0, 51);
            due("made anew", x.at(0, 0, 0), 51);
            due("now, too", x.at(0, 0, 1), 51);
        });
        sentence(6, "MEASURES 0 .. 4, each 1 .. 99 or missing (0),", () -> {
            CostumeStock x = Houses.small();
            for (int measure = 0; measure <= 4; measure += 4) {
                for (int v : new int[] {1, 99, 0}) {
                    due("of a thing", x.measure(false, 0, measure, v), true);
                    due("is " + v, x.at(0, measure, 0), v);
                    due("of an actor", x.measure(true, 0, measure, v), true);
                    due("is " + v, x.body(0, measure), v);
                }
            }
        });
        sentence(6, "MEASURES 0 .. 4, each 1 .. 99 or missing (0).", () -> {
            CostumeStock x = Houses.full();
            due("of the first actor", x.measure(true, 0, 0, 1), true);
            due("of the last actor", x.measure(true, 5, 4, 99), true);
            due("of the first", x.body(0, 0), 1);
            due("of the last", x.body(5, 4), 99);
            due("of the last but one thing", x.measure(false, 14, 4, 99), true);
            due("of it", x.at(14, 4, 1), 99);
        });
    }

    private static void promise6refused() {
        sentence(6, "false if one can't be.", () -> {
            for (boolean actor : new boolean[] {false, true}) {
                for (int v : new int[] {-1, 100, FARTHEST_BELOW, FARTHEST_ABOVE}) {
                    denied("measure of " + v, Houses::busy, x -> x.measure(actor, 0, 0, v));
                }
                for (int measure : new int[] {-1, 5, FARTHEST_BELOW, FARTHEST_ABOVE}) {
                    denied("measure " + measure, Houses::busy, x -> x.measure(actor, 0, measure, 50));
                }
                for (int who : new int[] {-1, actor ? 2 : 10, FARTHEST_BELOW, FARTHEST_ABOVE}) {
                    denied("measure of " + who, Houses::busy, x -> x.measure(actor, who, 0, 50));
                }
            }
        });
        sentence(6, "Of each but a trunk: MEASURES 0 .. 4,", () -> {
            denied("measure of a trunk", Houses::busy, x -> x.measure(false, 5, 0, 50));
            denied("missing measure of a trunk", Houses::busy, x -> x.measure(false, 7, 4, 0));
            due("an actor of its number has one", Houses.full().measure(true, 5, 0, 50), true);
        });
    }

    private static void promise7() {
        sentence(7, "What 0 DIRT, 1 TORN, 2 WORN, 3 LETS of a THING,", () -> {
            CostumeStock x = Houses.small();
            x.thing(1, 1);
            for (int what = 0; what <= 3; what++) {
                due("set(" + what + ")", x.set(what, 0, 3 + what), true);
            }
            int[] due = {0, 6, 3, 4, 5};
            for (int what = 0; what <= 4; what++) {
                due("of(0, " + what + ")", x.of(0, what), due[what]);
            }
            due("not of another thing", x.of(1, 1), 1);
            due("not of another thing", x.of(1, 3), 0);
        });
        sentence(7, "of each DIRT, TORN 0 .. 9, WORN 0 .. 999 (0 at first).", () -> {
            int[] most = {9, 9, 999};
            CostumeStock x = Houses.busy();
            for (int what = 0; what <= 2; what++) {
                for (int thing : new int[] {0, 5, 9}) {
                    int number = what;
                    due("the most", x.set(what, thing, most[what]), true);
                    due("it is", x.of(thing, 2 + what), most[what]);
                    due("the least", x.set(what, thing, 0), true);
                    due("it is", x.of(thing, 2 + what), 0);
                    denied("one more", Houses::busy, y -> y.set(number, thing, most[number] + 1));
                    denied("one less", Houses::busy, y -> y.set(number, thing, -1));
                }
            }
        });
        sentence(7, "LETS 0 .. 20;", () -> {
            CostumeStock x = Houses.busy();
            due("20", x.set(3, 0, 20), true);
            due("it is", x.of(0, 1), 20);
            due("0", x.set(3, 0, 0), true);
            due("it is", x.of(0, 1), 0);
            denied("21", Houses::busy, y -> y.set(3, 0, 21));
            denied("-1", Houses::busy, y -> y.set(3, 0, -1));
        });
    }

    private static void promise7purse() {
        sentence(7, "4 PURSE (thing not asked): true;", () -> {
            CostumeStock x = new CostumeStock();
            due("no thing at all", x.set(4, 0, 7), true);
            due("it is", x.look(4), 7);
            due("thing -1", x.set(4, -1, 8), true);
            due("it is", x.look(4), 8);
            due("the greatest thing", x.set(4, FARTHEST_ABOVE, 9), true);
            due("it is", x.look(4), 9);
        });
        sentence(7, "PURSE (0 at first; an int),", () -> {
            CostumeStock x = new CostumeStock();
            due("the least", x.set(4, 0, FARTHEST_BELOW), true);
            due("it is", x.look(4), FARTHEST_BELOW);
            due("the greatest", x.set(4, 0, FARTHEST_ABOVE), true);
            due("it is", x.look(4), FARTHEST_ABOVE);
        });
        sentence(7, "false if one can't be, or another what.", () -> {
            for (int what = 0; what <= 3; what++) {
                int number = what;
                for (int thing : new int[] {-1, 10, FARTHEST_BELOW, FARTHEST_ABOVE}) {
                    denied("set of thing " + thing, Houses::busy, x -> x.set(number, thing, 0));
                }
                denied("the least int", Houses::busy, x -> x.set(number, 0, FARTHEST_BELOW));
                denied("the greatest int", Houses::busy, x -> x.set(number, 0, FARTHEST_ABOVE));
            }
            for (int what : new int[] {-1, 5, FARTHEST_BELOW, FARTHEST_ABOVE}) {
                denied("set what " + what, Houses::busy, x -> x.set(what, 0, 0));
            }
        });
    }
}
