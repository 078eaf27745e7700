/** Promises 19 to 27, sentence by sentence: what is, who fits what and how dear, who wears what. */
final class Promises19To27 extends Promises {
    private static final int[] NO_THINGS = {-1, 10, Integer.MIN_VALUE, Integer.MAX_VALUE};
    private static final int[] NO_ACTORS = {-1, 2, Integer.MIN_VALUE, Integer.MAX_VALUE};

    static void all() {
        promise19();
        promise19places();
        promise19trunks();
        promise19refused();
        promise20();
        promise21();
        promise22();
        promise23();
        promise23full();
        promise24();
        promise24refused();
        promise25();
        promise26();
        promise27();
    }

    private static void promise19() {
        sentence(19, "Of a THING what 0 KIND, 1 LETS, 2 DIRT, 3 TORN, 4 WORN,", () -> {
            CostumeStock x = new CostumeStock();
            x.thing(3, 13);
            x.thing(4, 14);
            int[] set = {5, 6, 777};
            for (int what = 0; what < 3; what++) {
                x.set(what, 0, set[what]);
            }
            int[] due = {3, 13, 5, 6, 777};
            int[] other = {4, 14, 0, 0, 0};
            for (int what = 0; what < 5; what++) {
                due("of(0, " + what + ")", x.of(0, what), due[what]);
                due("of(1, " + what + ")", x.of(1, what), other[what]);
            }
        });
    }

    private static void promise19places() {
        sentence(19, "5 its HOLDER (NONE: ASIDE; 100: OUT itself), 6 its SLOT (NONE),", () -> {
            CostumeStock x = Houses.busy();
            int[] holders = {1, NONE, NONE, 16, NONE, 0, 15, 100, 17, 100};
            int[] slots = {7, NONE, NONE, 2, NONE, 0, 1, NONE, 0, NONE};
            for (int thing = 0; thing < 10; thing++) {
                due("holder of " + thing, x.of(thing, 5), holders[thing]);
                due("slot of " + thing, x.of(thing, 6), slots[thing]);
            }
        });
        sentence(19, "A THING is in a SLOT of a HOLDER, OUT (on hire), or ASIDE (at first).", () -> {
            CostumeStock x = Houses.small();
            due("aside at first", x.of(0, 5), NONE);
            x.put(0, 0, 0);
            due("in a slot", x.of(0, 5), 0);
            x.hire(0, 1, 1);
            due("out", x.of(0, 5), 100);
            due("in no slot", x.slot(0, 0), NONE);
            x.back(0, 0);
            due("aside", x.of(0, 5), NONE);
        });
        sentence(19, "7 DUE (NONE: not HIRED),", () -> {
            CostumeStock x = Houses.busy();
            int[] due = {NONE, NONE, NONE, NONE, NONE, NONE, NONE, 3, NONE, 1};
            for (int thing = 0; thing < 10; thing++) {
                due("due of " + thing, x.of(thing, 7), due[thing]);
            }
            x.back(9, 0);
            due("back", x.of(9, 7), NONE);
        });
        sentence(19, "8 1 if it is OUT or in one that is, else 0,", () -> {
            CostumeStock x = Houses.busy();
            for (int thing = 0; thing < 10; thing++) {
                due("of(" + thing + ", 8)", x.of(thing, 8), thing >= 7 ? 1 : 0);
            }
            x.hire(5, 1, 0);
            int[] due = {0, 0, 0, 1, 0, 1, 1, 1, 1, 1};
            for (int thing = 0; thing < 10; thing++) {
                due("of(" + thing + ", 8) then", x.of(thing, 8), due[thing]);
            }
        });
    }

    private static void promise19trunks() {
        sentence(19, "9 how many THINGS are in it at any depth,", () -> {
            CostumeStock x = Houses.busy();
            int[] due = {0, 0, 0, 0, 0, 2, 1, 1, 0, 0};
            for (int thing = 0; thing < 10; thing++) {
                due("in " + thing, x.of(thing, 9), due[thing]);
            }
            CostumeStock empty = new CostumeStock();
            empty.thing(5, 0);
            due("in an empty trunk", empty.of(0, 9), 0);
            due("all that can be in three", filledTrunks().of(0, 9), 10);
        });
        sentence(19, "10 DEEP (0: no trunk).", () -> {
            CostumeStock x = Houses.busy();
            int[] due = {0, 0, 0, 0, 0, 2, 1, 1, 0, 0};
            for (int thing = 0; thing < 10; thing++) {
                due("deep of " + thing, x.of(thing, 10), due[thing]);
            }
        });
        sentence(19, "DEEP of a trunk: 1 and that of the deepest trunk in it (1 without one).", () -> {
            CostumeStock x = new CostumeStock();
            for (int i = 0; i < 4; i++) {
                x.thing(5, 0);
            }
            x.thing(0, 0);
            due("empty", x.of(0, 10), 1);
            x.put(4, 10, 0);
            due("with a dress", x.of(0, 10), 1);
            x.put(1, 10, 1);
            due("with a trunk", x.of(0, 10), 2);
            x.put(3, 12, 0);
            x.put(2, 10, 3);
            due("with the deepest of two", x.of(0, 10), 3);
            due("of the deepest", x.of(2, 10), 2);
            due("of the last", x.of(3, 10), 1);
            x.take(12, 0);
            due("without the last", x.of(0, 10), 2);
            CostumeStock y = new CostumeStock();
            y.thing(5, 0);
            y.thing(5, 0);
            y.put(0, 11, 0);
            due("with the first of all", y.of(1, 10), 2);
        });
    }

    /** Trunks 0, 1, 2 one in the other, all twelve slots taken but two. */
    private static CostumeStock filledTrunks() {
        CostumeStock x = new CostumeStock();
        for (int i = 0; i < 16; i++) {
            x.thing(i < 3 ? 5 : 0, 0);
        }
        x.put(1, 10, 0);
        x.put(2, 11, 0);
        int thing = 3;
        for (int trunk = 0; trunk < 3; trunk++) {
            for (int slot = 1; slot < 4 && thing < 11; slot++) {
                x.put(thing, 10 + trunk, slot);
                thing++;
            }
        }
        return x;
    }

    private static void promise19refused() {
        sentence(19, "NONE - 1 if there is none such, or another what.", () -> {
            for (int what = 0; what <= 10; what++) {
                for (int thing : NO_THINGS) {
                    due("of(" + thing + ", " + what + ")", Houses.busy().of(thing, what), NO_SUCH);
                }
            }
            for (int what : new int[] {-1, 11, Integer.MIN_VALUE, Integer.MAX_VALUE}) {
                refused("of(0, " + what + ")", Houses::busy, x -> x.of(0, what), NO_SUCH);
            }
            due("the last of sixteen", Houses.full().of(15, 0), 5);
            due("behind the last of sixteen", Houses.full().of(16, 0), NO_SUCH);
        });
    }

    private static void promise20() {
        sentence(20, "A MEASURE of a THING what 0 as MADE, 1 NOW.", () -> {
            CostumeStock x = Houses.small();
            x.measure(false, 0, 4, 99);
            due("made, the first", x.at(0, 0, 0), 50);
            due("now, the first", x.at(0, 0, 1), 50);
            due("made, the last", x.at(0, 4, 0), 99);
            due("now, the last", x.at(0, 4, 1), 99);
            due("missing", x.at(0, 1, 0), 0);
            x.alter(0, 0);
            due("made, altered", x.at(0, 0, 0), 50);
            due("now, altered", x.at(0, 0, 1), 53);
            due("of one that is out", Houses.busy().at(9, 0, 0), 59);
        });
        sentence(20, "NONE if there is none such, or another what.", () -> {
            for (int thing : NO_THINGS) {
                due("at(" + thing + ", 0, 0)", Houses.busy().at(thing, 0, 0), NONE);
            }
            for (int measure : new int[] {-1, 5, Integer.MIN_VALUE, Integer.MAX_VALUE}) {
                due("at(0, " + measure + ", 0)", Houses.busy().at(0, measure, 0), NONE);
                due("at(9, " + measure + ", 1)", Houses.busy().at(9, measure, 1), NONE);
            }
            for (int what : new int[] {-1, 2, Integer.MIN_VALUE, Integer.MAX_VALUE}) {
                refused("at(0, 0, " + what + ")", Houses::busy, x -> x.at(0, 0, what), NONE);
            }
            due("of a trunk, made", Houses.busy().at(5, 0, 0), NONE);
            due("of a trunk, now", Houses.busy().at(5, 0, 1), NONE);
        });
    }

    private static void promise21() {
        sentence(21, "A MEASURE of an ACTOR;", () -> {
            CostumeStock x = Houses.full();
            x.measure(true, 5, 4, 98);
            due("the first of the first", x.body(0, 0), 50);
            due("the last of the last", x.body(5, 4), 98);
            due("missing", x.body(5, 3), 0);
            due("missing", x.body(4, 4), 0);
        });
        sentence(21, "NONE if there is none such.", () -> {
            for (int actor : NO_ACTORS) {
                refused("body(" + actor + ", 0)", Houses::busy, x -> x.body(actor, 0), NONE);
            }
            for (int measure : new int[] {-1, 5, Integer.MIN_VALUE, Integer.MAX_VALUE}) {
                due("body(0, " + measure + ")", Houses.busy().body(0, measure), NONE);
                due("body(1, " + measure + ")", Houses.busy().body(1, measure), NONE);
            }
            due("behind the last of six", Houses.full().body(6, 0), NONE);
        });
    }

    private static void promise22() {
        sentence(22, "What is in a SLOT; NONE: nothing;", () -> {
            CostumeStock x = Houses.busy();
            due("the first slot of a rack", x.slot(0, 0), 5);
            due("the last slot of a rack", x.slot(1, 7), 0);
            due("nothing in a rack", x.slot(0, 2), NONE);
            due("a trunk in a trunk", x.slot(15, 1), 6);
            due("in a trunk in a trunk", x.slot(16, 2), 3);
            due("in a trunk that is out", x.slot(17, 0), 8);
            due("nothing in a trunk", x.slot(15, 0), NONE);
            x.take(1, 7);
            due("taken", x.slot(1, 7), NONE);
            x.hire(5, 1, 0);
            due("hired", x.slot(0, 0), NONE);
        });
        sentence(22, "NONE - 1 if there is none such.", () -> {
            for (int holder : new int[] {-1, 2, 3, 9, 10, 14, 20, 100, Integer.MIN_VALUE, Integer.MAX_VALUE}) {
                refused("slot(" + holder + ", 0)", Houses::busy, x -> x.slot(holder, 0), NO_SUCH);
            }
            for (int slot : new int[] {-1, 3, Integer.MIN_VALUE, Integer.MAX_VALUE}) {
                due("slot(0, " + slot + ")", Houses.busy().slot(0, slot), NO_SUCH);
            }
            due("slot(1, 8)", Houses.busy().slot(1, 8), NO_SUCH);
            due("slot(3, 0) of four racks", Houses.full().slot(3, 0), NONE);
            due("slot(4, 0) of four racks", Houses.full().slot(4, 0), NO_SUCH);
            due("slot(25, 0) of sixteen things", Houses.full().slot(25, 0), NONE);
            due("slot(26, 0) of sixteen things", Houses.full().slot(26, 0), NO_SUCH);
        });
        sentence(22, "a trunk has 4 SLOTS.", () -> {
            CostumeStock x = Houses.busy();
            due("slot 3", x.slot(15, 3), NONE);
            due("slot 4", x.slot(15, 4), NO_SUCH);
            due("slot -1", x.slot(15, -1), NO_SUCH);
        });
    }

    private static void promise23() {
        sentence(23, "Of line i of THE BOOK what 0 DAY, 1 THING, 2 what, 3 PURSE.", () -> {
            CostumeStock x = Houses.busy();
            int[][] due = {{0, 5, 0, 500}, {0, 6, 0, 500}, {0, 3, 0, 500}, {0, 8, 0, 500}, {0, 7, 5, 600},
                {0, 9, 5, 650}, {2, 0, 0, 650}};
            due("lines", x.look(5), due.length);
            for (int line = 0; line < due.length; line++) {
                for (int what = 0; what < 4; what++) {
                    due("book(" + line + ", " + what + ")", x.book(line, what), due[line][what]);
                }
            }
        });
        sentence(23, "what (0 PUT, 1 TAKEN, 2 ALTERED, 3 WASHED, 4 MENDED, 5 HIRED, 6 BACK), PURSE then.", () -> {
            CostumeStock x = Houses.small();
            x.set(1, 0, 1);
            x.put(0, 0, 0);
            x.take(0, 0);
            x.alter(0, 0);
            x.care(0, false);
            x.care(0, true);
            x.hire(0, 1, 30);
            x.days(2);
            x.back(0, 1);
            x.alter(0, NONE);
            int[] what = {0, 1, 2, 3, 4, 5, 6, 2};
            int[] purse = {0, 0, -3, -3, -8, 22, 7, 4};
            due("lines", x.look(5), what.length);
            for (int line = 0; line < what.length; line++) {
                due("what of line " + line, x.book(line, 2), what[line]);
                due("purse of line " + line, x.book(line, 3), purse[line]);
            }
        });
        sentence(23, "NONE - 999999 if there is none such, or another what.", () -> {
            for (int line : new int[] {-1, 7, 120, Integer.MIN_VALUE, Integer.MAX_VALUE}) {
                for (int what = 0; what < 4; what++) {
                    due("book(" + line + ", " + what + ")", Houses.busy().book(line, what), NO_LINE);
                }
            }
            for (int what : new int[] {-1, 4, Integer.MIN_VALUE, Integer.MAX_VALUE}) {
                refused("book(0, " + what + ")", Houses::busy, x -> x.book(0, what), NO_LINE);
                due("book(6, " + what + ")", Houses.busy().book(6, what), NO_LINE);
            }
        });
    }

    private static void promise23full() {
        sentence(23, "THE BOOK (120 lines; no more then): DAY, THING,", () -> {
            CostumeStock x = Houses.small();
            x.set(0, 0, 9);
            for (int line = 0; line < 119; line++) {
                x.put(0, 0, 0);
                x.undo();
                x.care(0, false);
            }
            due("119 lines", x.look(5), 119);
            due("the 120th", x.put(0, 0, 0), true);
            due("120 lines", x.look(5), 120);
            due("it", x.book(119, 2), 0);
            due("none behind it", x.book(120, 2), NO_LINE);
            due("an act more", x.take(0, 0), 0);
            due("is done", x.of(0, 5), NONE);
            due("120 lines yet", x.look(5), 120);
            due("the last is as it was", x.book(119, 2), 0);
            due("the first is as it was", x.book(0, 2), 3);
            due("none behind it", x.book(120, 2), NO_LINE);
            due("undone", x.undo(), true);
            due("120 lines yet", x.look(5), 120);
            due("the 120th undone", x.undo(), true);
            due("119 lines", x.look(5), 119);
            due("it is gone", x.book(119, 2), NO_LINE);
            due("another 120th", x.care(0, false), true);
            due("it", x.book(119, 2), 3);
        });
    }

    private static void promise24() {
        sentence(24, "FITS: 0, 1, 2;", () -> {
            CostumeStock x = Houses.small();
            due("it fits", x.fits(0, 0), 1);
            x.measure(false, 0, 1, 40);
            due("it is open", x.fits(0, 0), 2);
            x.measure(true, 0, 1, 90);
            due("it does not", x.fits(0, 0), 0);
        });
        sentence(24, "A THING (no trunk) FITS an ACTOR: for each MEASURE that both have: the ACTOR's is LETS at most from that as MADE, else it does not (0);",
            () -> {
                for (int lets : new int[] {0, 1, 20}) {
                    for (int measure = 0; measure < 5; measure++) {
                        CostumeStock x = new CostumeStock();
                        x.thing(0, lets);
                        x.actor();
                        x.measure(false, 0, measure, 50);
                        int[] bodies = {50 - lets - 1, 50 - lets, 50, 50 + lets, 50 + lets + 1};
                        for (int i = 0; i < 5; i++) {
                            x.measure(true, 0, measure, bodies[i]);
                            due("lets " + lets + ", body " + bodies[i], x.fits(0, 0), i > 0 && i < 4 ? 1 : 0);
                        }
                    }
                }
            });
        sentence(24, "from that as MADE,", () -> {
            CostumeStock x = Houses.small();
            x.alter(0, 0);
            x.measure(true, 0, 0, 55);
            due("5 from made, 2 from now", x.fits(0, 0), 1);
            x.measure(true, 0, 0, 56);
            due("6 from made, 3 from now", x.fits(0, 0), 0);
            x.measure(true, 0, 0, 45);
            due("5 from made, 8 from now", x.fits(0, 0), 1);
        });
        sentence(24, "then, if the THING has one that the ACTOR has not, it is OPEN (2); else it FITS (1).", () -> {
            CostumeStock x = new CostumeStock();
            x.thing(0, 0);
            x.actor();
            due("neither has any", x.fits(0, 0), 1);
            x.measure(true, 0, 4, 1);
            due("the actor alone has one", x.fits(0, 0), 1);
            x.measure(false, 0, 0, 99);
            due("the thing alone has one", x.fits(0, 0), 2);
            x.measure(true, 0, 0, 98);
            due("both have it", x.fits(0, 0), 0);
            x.measure(false, 0, 1, 10);
            due("it does not, ahead of open", x.fits(0, 0), 0);
            x.measure(true, 0, 0, 99);
            due("open by the other", x.fits(0, 0), 2);
            x.measure(true, 0, 1, 10);
            due("both", x.fits(0, 0), 1);
        });
    }

    private static void promise24refused() {
        sentence(24, "NONE if one can't be (a trunk).", () -> {
            for (int thing : NO_THINGS) {
                due("fits(" + thing + ", 0)", Houses.busy().fits(thing, 0), NONE);
            }
            for (int actor : NO_ACTORS) {
                due("fits(0, " + actor + ")", Houses.busy().fits(0, actor), NONE);
            }
            refused("a trunk", Houses::busy, x -> x.fits(5, 0), NONE);
            due("one that is out fits", Houses.busy().fits(9, 1), 1);
            due("one in a trunk that is out fits", Houses.busy().fits(8, 1), 1);
            due("the last actor", Houses.full().fits(0, 5), 1);
            due("no thing at all", new CostumeStock().fits(0, 0), NONE);
        });
    }

    private static void promise25() {
        sentence(25, "COST; NONE if it does not FIT (0), or one can't be.", () -> {
            CostumeStock x = Houses.small();
            due("it fits", x.cost(0, 0), 3);
            x.measure(true, 0, 0, 55);
            due("lets at most", x.cost(0, 0), 5);
            x.measure(true, 0, 0, 56);
            due("more than lets", x.cost(0, 0), NONE);
            x.measure(true, 0, 0, 0);
            due("open", x.cost(0, 0), 0);
            for (int thing : NO_THINGS) {
                due("cost(" + thing + ", 0)", Houses.busy().cost(thing, 0), NONE);
            }
            for (int actor : NO_ACTORS) {
                due("cost(0, " + actor + ")", Houses.busy().cost(0, actor), NONE);
            }
            refused("a trunk", Houses::busy, y -> y.cost(5, 0), NONE);
            due("one that is out has a cost", Houses.busy().cost(9, 1), 10);
        });
        sentence(25, "COST: of each MEASURE that both have and that is not alike NOW: cost (by: how far; out: 1, if the ACTOR's is greater), added.",
            () -> {
                CostumeStock x = new CostumeStock();
                x.thing(0, 20);
                x.actor();
                Check.tell(x, 0, "cost 1000+by*10+out;");
                int[] made = {50, 60, 70, 0, 40};
                int[] body = {53, 58, 70, 30, 0};
                for (int measure = 0; measure < 5; measure++) {
                    x.measure(false, 0, measure, made[measure]);
                    x.measure(true, 0, measure, body[measure]);
                }
                due("two of five", x.cost(0, 0), 1031 + 1020);
                x.alter(0, 0);
                due("alike now", x.cost(0, 0), 0);
                x.measure(true, 0, 0, 51);
                due("one, from what it is now", x.cost(0, 0), 1020);
                x.measure(true, 0, 0, 50);
                due("as made, but not alike now", x.cost(0, 0), 1030);
            });
        sentence(25, "added.", () -> {
            CostumeStock x = new CostumeStock();
            x.thing(0, 20);
            x.actor();
            Check.tell(x, 0, "cost 9999;");
            for (int measure = 0; measure < 5; measure++) {
                x.measure(false, 0, measure, 50);
                x.measure(true, 0, measure, 51);
            }
            due("five, each held for itself", x.cost(0, 0), 5 * 9999);
        });
    }

    private static void promise26() {
        sentence(26, "Whether a THING SUITS a KIND (0 .. 5): 1, 0;", () -> {
            CostumeStock x = new CostumeStock();
            for (int own = 0; own <= 5; own++) {
                x.thing(own, 0);
                due("its own kind", x.suits(own, own), 1);
            }
            due("a mask is no dress", x.suits(3, 0), 0);
            due("a set is no mask", x.suits(4, 3), 0);
            due("a trunk is no set", x.suits(5, 4), 0);
            due("a dress is no trunk", x.suits(0, 5), 0);
        });
        sentence(26, "A uniform is a coat, too, a coat a dress: one SUITS a KIND, if it is one of that.", () -> {
            String[] rows = {"100000", "110000", "111000", "000100", "000010", "000001"};
            CostumeStock x = new CostumeStock();
            for (int own = 0; own <= 5; own++) {
                x.thing(own, 0);
                for (int kind = 0; kind <= 5; kind++) {
                    due("suits(" + own + ", " + kind + ")", x.suits(own, kind), rows[own].charAt(kind) - '0');
                }
            }
        });
        sentence(26, "NONE if one can't be.", () -> {
            for (int thing : NO_THINGS) {
                due("suits(" + thing + ", 0)", Houses.busy().suits(thing, 0), NONE);
            }
            for (int kind : new int[] {-1, 6, Integer.MIN_VALUE, Integer.MAX_VALUE}) {
                refused("suits(0, " + kind + ")", Houses::busy, x -> x.suits(0, kind), NONE);
            }
        });
    }

    private static void promise27() {
        sentence(27, "Of WEAR i what 0 the scene, 1 the ACTOR, 2 the KIND.", () -> {
            CostumeStock x = Houses.full();
            x.end(0);
            Check.told(x, 2, "scene 0 wear 5 set wear 0 dress;scene 1;scene 2 wear 3 mask wear 5 coat;scene 3 wear 1 uniform;"
                + "scene 4;scene 5 wear 0 set;", 6);
            int[][] due = {{0, 5, 4}, {0, 0, 0}, {2, 3, 3}, {2, 5, 1}, {3, 1, 2}, {5, 0, 4}};
            for (int i = 0; i < 6; i++) {
                for (int what = 0; what < 3; what++) {
                    due("wear(" + i + ", " + what + ")", x.wear(i, what), due[i][what]);
                }
            }
        });
        sentence(27, "NONE if there is none such, or another what.", () -> {
            for (int i : new int[] {-1, 3, Integer.MIN_VALUE, Integer.MAX_VALUE}) {
                for (int what = 0; what < 3; what++) {
                    due("wear(" + i + ", " + what + ")", Houses.busy().wear(i, what), NONE);
                }
            }
            for (int what : new int[] {-1, 3, Integer.MIN_VALUE, Integer.MAX_VALUE}) {
                refused("wear(0, " + what + ")", Houses::busy, x -> x.wear(0, what), NONE);
                due("wear(2, " + what + ")", Houses.busy().wear(2, what), NONE);
            }
            due("behind the last of six", Houses.full().wear(6, 0), NONE);
            CostumeStock x = Houses.busy();
            x.end(0);
            Check.tell(x, 2, "scene 1;");
            due("no longer there", x.wear(0, 0), NONE);
        });
    }
}
