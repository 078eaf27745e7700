/** Promises 8 to 14, sentence by sentence: the acts and the days. */
final class Promises08To14 extends Promises {
    static void all() {
        promise8();
        promise8holders();
        promise8trunks();
        promise8depth();
        promise9();
        promise10();
        promise10refused();
        promise10back();
        promise11();
        promise12();
        promise12out();
        promise13();
        promise13paid();
        promise14();
        promise14things();
        promise14draws();
        promise14tears();
    }

    /** Five trunks, 0 to 4, and a dress, 5, all aside; a rack of two slots. */
    private static CostumeStock trunks() {
        CostumeStock x = new CostumeStock();
        x.rack(2);
        for (int i = 0; i < 5; i++) {
            x.thing(5, 0);
        }
        x.thing(0, 0);
        return x;
    }

    /** Trunks 0, 1, 2 one in the other. */
    private static CostumeStock threeDeep() {
        CostumeStock x = trunks();
        x.put(1, 10, 0);
        x.put(2, 11, 3);
        return x;
    }

    private static void promise8() {
        sentence(8, "To PUT: true; false if it can't be.", () -> {
            CostumeStock x = trunks();
            due("put", x.put(5, 0, 1), true);
            due("there it is", x.slot(0, 1), 5);
            due("its holder", x.of(5, 5), 0);
            due("its slot", x.of(5, 6), 1);
            due("nothing beside it", x.slot(0, 0), NONE);
            for (int thing : new int[] {-1, 10, Integer.MIN_VALUE, Integer.MAX_VALUE}) {
                denied("put thing " + thing, Houses::busy, y -> y.put(thing, 1, 0));
            }
            due("the first thing", x.put(0, 0, 0), true);
        });
        sentence(8, "To PUT a THING that is ASIDE into an empty SLOT:", () -> {
            denied("one in a rack", Houses::busy, x -> x.put(0, 1, 0));
            denied("one into its own slot", Houses::busy, x -> x.put(0, 1, 7));
            denied("one in a trunk", Houses::busy, x -> x.put(3, 1, 0));
            denied("one out", Houses::busy, x -> x.put(9, 1, 0));
            denied("one in a trunk that is out", Houses::busy, x -> x.put(8, 1, 0));
            denied("into a full slot of a rack", Houses::busy, x -> x.put(1, 1, 7));
            denied("into a full slot of a trunk", Houses::busy, x -> x.put(1, 16, 2));
            CostumeStock x = Houses.busy();
            x.take(1, 7);
            due("taken, it can be put", x.put(0, 1, 0), true);
            due("the slot is empty then", x.put(1, 1, 7), true);
            x.back(9, 0);
            due("back, it can be put", x.put(9, 1, 1), true);
        });
        sentence(8, "a trunk has 4 SLOTS.", () -> {
            CostumeStock x = trunks();
            for (int slot = 0; slot < 4; slot++) {
                due("slot " + slot, x.put(slot == 0 ? 5 : slot, 10, slot), true);
            }
            due("all four are taken", x.of(0, 9), 4);
            due("slot 4", x.put(4, 10, 4), false);
            due("slot -1", x.put(4, 10, -1), false);
            denied("slot 4 of an empty one", Promises08To14::trunks, y -> y.put(5, 10, 4));
            denied("slot -1 of an empty one", Promises08To14::trunks, y -> y.put(5, 10, -1));
        });
    }

    private static void promise8holders() {
        sentence(8, "of a HOLDER that there is and that is not OUT (nor in one that is);", () -> {
            for (int holder : new int[] {-1, 2, 9, Integer.MIN_VALUE, Integer.MAX_VALUE}) {
                denied("holder " + holder, Houses::busy, x -> x.put(1, holder, 0));
            }
            denied("behind the last slot", Houses::busy, x -> x.put(1, 0, 3));
            denied("slot -1", Houses::busy, x -> x.put(1, 0, -1));
            denied("a trunk that is out", Houses::busy, x -> x.put(1, 17, 1));
            due("the last slot", Houses.busy().put(1, 0, 2), true);
            due("a trunk in a trunk", Houses.busy().put(1, 16, 3), true);
            CostumeStock x = trunks();
            x.put(1, 10, 0);
            x.hire(0, 1, 0);
            due("the first thing, a trunk that is out", x.put(5, 10, 1), false);
            due("nor is it opened", x.take(10, 0), NONE);
            due("a trunk in one that is out", x.put(5, 11, 0), false);
            x.back(0, 0);
            due("a trunk in one that is back", x.put(5, 11, 0), true);
        });
        sentence(8, "HOLDERS: RACK r, or 10 and t: the trunk that is THING t.", () -> {
            denied("what is no trunk", Houses::busy, x -> x.put(1, 12, 0));
            denied("itself, no trunk", Houses::busy, x -> x.put(1, 11, 0));
            denied("behind the last thing", Houses::busy, x -> x.put(1, 20, 0));
            denied("100, though things are out", Houses::busy, x -> x.put(1, 100, 0));
            CostumeStock x = Houses.full();
            due("the last rack", x.put(0, 3, 0), true);
            due("the last thing, a trunk", x.put(1, 25, 0), true);
            due("its holder", x.of(1, 5), 25);
            due("no 5th rack", x.put(2, 4, 0), false);
            due("no 17th thing", x.put(2, 26, 0), false);
        });
    }

    private static void promise8trunks() {
        sentence(8, "a trunk not into itself or what is in it;", () -> {
            denied("into itself", Promises08To14::trunks, x -> x.put(0, 10, 0));
            denied("into what is in it", () -> {
                CostumeStock x = trunks();
                x.put(1, 10, 0);
                return x;
            }, x -> x.put(0, 11, 1));
            denied("into what is deep in it", Promises08To14::threeDeep, x -> x.put(0, 12, 1));
            CostumeStock x = trunks();
            x.put(1, 10, 0);
            x.take(10, 0);
            due("into what was in it", x.put(0, 11, 0), true);
        });
    }

    private static void promise8depth() {
        sentence(8, "so that no trunk is DEEPER than 3.", () -> {
            CostumeStock x = trunks();
            due("a second", x.put(1, 10, 0), true);
            due("a third", x.put(2, 11, 0), true);
            due("three deep", x.of(0, 10), 3);
            denied("a fourth", Promises08To14::threeDeep, y -> y.put(3, 12, 0));
            due("beside the third", x.put(3, 11, 1), true);
            due("a dress into the third", x.put(5, 12, 0), true);
            due("three deep into a rack", x.put(0, 0, 0), true);
        });
        sentence(8, "so that no trunk is DEEPER than 3.", () -> {
            denied("three deep into another", Promises08To14::threeDeep, x -> x.put(0, 13, 0));
            denied("two deep into the second of two", () -> {
                CostumeStock x = trunks();
                x.put(1, 10, 0);
                x.put(3, 12, 0);
                return x;
            }, x -> x.put(2, 11, 0));
            CostumeStock x = trunks();
            x.put(3, 12, 0);
            due("two deep into a first", x.put(2, 10, 0), true);
            due("three deep", x.of(0, 10), 3);
            x.take(10, 0);
            due("one deep", x.of(0, 10), 1);
            x.put(0, 0, 0);
            due("and into one that is in a rack", x.put(2, 10, 0), true);
        });
    }

    private static void promise9() {
        sentence(9, "To TAKE: the THING;", () -> {
            CostumeStock x = Houses.busy();
            due("of a last slot", x.take(1, 7), 0);
            due("aside", x.of(0, 5), NONE);
            due("no slot", x.of(0, 6), NONE);
            due("the slot is empty", x.slot(1, 7), NONE);
            due("of a first slot", x.take(0, 0), 5);
            due("of a trunk in a trunk", x.take(16, 2), 3);
        });
        sentence(9, "NONE if there is none, or it can't be.", () -> {
            refused("an empty slot of a rack", Houses::busy, x -> x.take(0, 1), NONE);
            refused("an empty slot of a trunk", Houses::busy, x -> x.take(15, 0), NONE);
            refused("behind the last slot", Houses::busy, x -> x.take(0, 3), NONE);
            refused("behind a trunk's last slot", Houses::busy, x -> x.take(15, 4), NONE);
            refused("slot -1", Houses::busy, x -> x.take(0, -1), NONE);
            for (int holder : new int[] {-1, 2, 9, 10, 20, 100, Integer.MIN_VALUE, Integer.MAX_VALUE}) {
                refused("holder " + holder, Houses::busy, x -> x.take(holder, 0), NONE);
            }
        });
        sentence(9, "To TAKE what is in a SLOT: ASIDE (what is in it stays in it), likewise not OUT.", () -> {
            CostumeStock x = Houses.busy();
            due("a trunk", x.take(0, 0), 5);
            due("what is in it", x.of(6, 5), 15);
            due("its slot", x.of(6, 6), 1);
            due("what is deep in it", x.of(3, 5), 16);
            due("how many", x.of(5, 9), 2);
            refused("of a trunk that is out", Houses::busy, y -> y.take(17, 0), NONE);
            refused("of a trunk in one that is out", () -> {
                CostumeStock y = Houses.busy();
                y.hire(5, 1, 1);
                return y;
            }, y -> y.take(16, 2), NONE);
            x.back(7, 0);
            due("of a trunk that is back", x.take(17, 0), 8);
        });
    }

    private static void promise10() {
        sentence(10, "To ALTER (actor NONE: back): the COST;", () -> {
            CostumeStock x = Houses.small();
            due("to the actor", x.alter(0, 0), 3);
            due("again", x.alter(0, 0), 0);
            due("back", x.alter(0, NONE), 3);
            due("back again", x.alter(0, NONE), 0);
            due("four acts", x.look(5), 4);
        });
        sentence(10, "To ALTER a THING (not OUT) for an ACTOR whom it FITS or is OPEN to: each MEASURE that both have is NOW the ACTOR's;",
            () -> {
                CostumeStock x = Houses.small();
                x.measure(false, 0, 1, 20);
                x.measure(true, 0, 2, 30);
                x.measure(false, 0, 4, 99);
                x.measure(true, 0, 4, 95);
                due("open", x.fits(0, 0), 2);
                due("altered", x.alter(0, 0), 7);
                int[] now = {53, 20, 0, 0, 95};
                int[] made = {50, 20, 0, 0, 99};
                for (int measure = 0; measure < 5; measure++) {
                    due("now", x.at(0, measure, 1), now[measure]);
                    due("made", x.at(0, measure, 0), made[measure]);
                }
            });
        sentence(10, "each MEASURE that both have is NOW the ACTOR's;", () -> {
            CostumeStock x = Houses.busy();
            for (int measure = 0; measure < 5; measure++) {
                x.measure(false, 1, measure, 50);
                x.measure(false, 2, measure, 50);
                x.measure(true, 0, measure, 51);
                x.measure(true, 1, measure, 53);
            }
            x.alter(1, 0);
            for (int measure = 0; measure < 5; measure++) {
                due("altered", x.at(1, measure, 1), 51);
                due("the thing behind it is not", x.at(2, measure, 1), 50);
                due("nor the actor", x.body(0, measure), 51);
            }
            due("nor the thing ahead of it", x.at(0, 0, 1), 50);
        });
        sentence(10, "for an ACTOR whom it FITS or is OPEN to:", () -> {
            CostumeStock x = Houses.small();
            x.measure(true, 0, 0, 55);
            due("lets at most, above", x.alter(0, 0), 5);
            x.measure(true, 0, 0, 45);
            due("lets at most below made, from what it is now", x.alter(0, 0), 10);
            x.measure(true, 0, 0, 56);
            due("one more above", x.alter(0, 0), NONE);
            x.measure(true, 0, 0, 44);
            due("one more below", x.alter(0, 0), NONE);
            due("it stays", x.at(0, 0, 1), 45);
        });
        sentence(10, "PURSE is COST less.", () -> {
            CostumeStock x = Houses.small();
            Check.tell(x, 0, "cost 9999;");
            x.set(4, 0, 10000);
            due("cost", x.alter(0, 0), 9999);
            due("purse", x.look(4), 1);
            due("book", x.book(0, 3), 1);
            due("back", x.alter(0, NONE), 9999);
            due("below 0", x.look(4), -9998);
            x.set(4, 0, Integer.MIN_VALUE);
            x.alter(0, 0);
            due("it wraps", x.look(4), Integer.MIN_VALUE - 9999);
        });
    }

    private static void promise10refused() {
        sentence(10, "NONE, and nothing is done, if it can't be.", () -> {
            for (int thing : new int[] {-1, 10, Integer.MIN_VALUE, Integer.MAX_VALUE}) {
                refused("thing " + thing, Houses::busy, x -> x.alter(thing, 0), NONE);
                refused("thing " + thing + " back", Houses::busy, x -> x.alter(thing, NONE), NONE);
            }
            for (int actor : new int[] {-2, 2, Integer.MIN_VALUE, Integer.MAX_VALUE}) {
                refused("actor " + actor, Houses::busy, x -> x.alter(0, actor), NONE);
            }
            refused("a trunk", Houses::busy, x -> x.alter(5, 0), NONE);
            refused("a trunk back", Houses::busy, x -> x.alter(5, NONE), NONE);
            refused("what does not fit", () -> {
                CostumeStock x = Houses.busy();
                x.measure(true, 0, 0, 56);
                return x;
            }, x -> x.alter(0, 0), NONE);
        });
        sentence(10, "(None of them OUT, nor in a trunk that is.)", () -> {
            refused("out", Houses::busy, x -> x.alter(9, 0), NONE);
            refused("out, back to made", Houses::busy, x -> x.alter(9, NONE), NONE);
            refused("in one that is out", Houses::busy, x -> x.alter(8, 1), NONE);
            refused("in one that is out, back to made", Houses::busy, x -> x.alter(8, NONE), NONE);
            due("in a trunk that is not", Houses.busy().alter(3, 0), 2);
        });
    }

    private static void promise10back() {
        sentence(10, "Back: each is as it was MADE (an ACTOR NONE: COST as of one with those MEASURES).", () -> {
            CostumeStock x = Houses.small();
            x.measure(false, 0, 3, 60);
            x.measure(true, 0, 3, 56);
            Check.tell(x, 0, "cost by*10+out when measure=0;cost by*100+out;");
            due("to the actor", x.alter(0, 0), 31 + 400);
            due("back: taken in, then let out", x.alter(0, NONE), 30 + 401);
            due("as made", x.at(0, 0, 1), 50);
            due("as made", x.at(0, 3, 1), 60);
            due("purse", x.look(4), -862);
            x.alter(0, 0);
            x.measure(true, 0, 0, 90);
            due("back from one whom it fits no more", x.alter(0, NONE), 431);
        });
    }

    private static void promise11() {
        sentence(11, "To WASH (mend false), to MEND: true;", () -> {
            CostumeStock x = Houses.busy();
            due("wash", x.care(1, false), true);
            due("dirt", x.of(1, 2), 0);
            due("mend", x.care(0, true), true);
            due("torn", x.of(0, 3), 1);
            due("a trunk is mended, too", x.care(5, true), true);
            due("torn", x.of(5, 3), 0);
            due("a trunk is washed, too", x.care(5, false), true);
        });
        sentence(11, "To WASH: DIRT 0.", () -> {
            CostumeStock x = Houses.small();
            for (int dirt : new int[] {9, 1, 0}) {
                x.set(0, 0, dirt);
                x.set(1, 0, 4);
                due("wash", x.care(0, false), true);
                due("dirt", x.of(0, 2), 0);
                due("torn stays", x.of(0, 3), 4);
            }
            due("purse", x.look(4), 0);
        });
        sentence(11, "To MEND a TORN one: TORN is one less, PURSE mend less.", () -> {
            CostumeStock x = Houses.small();
            Check.tell(x, 0, "mend torn*torn;");
            x.set(1, 0, 9);
            x.set(0, 0, 7);
            int purse = 0;
            for (int torn = 9; torn > 0; torn--) {
                due("mend", x.care(0, true), true);
                purse -= torn * torn;
                due("torn", x.of(0, 3), torn - 1);
                due("purse, by torn as it was", x.look(4), purse);
            }
            due("dirt stays", x.of(0, 2), 7);
            x.set(1, 0, 1);
            x.set(4, 0, Integer.MIN_VALUE);
            x.care(0, true);
            due("the purse wraps", x.look(4), Integer.MAX_VALUE);
        });
        sentence(11, "false if it can't be (not TORN).", () -> {
            denied("mend a whole one", Houses::busy, x -> x.care(1, true));
            for (int thing : new int[] {-1, 10, Integer.MIN_VALUE, Integer.MAX_VALUE}) {
                denied("wash thing " + thing, Houses::busy, x -> x.care(thing, false));
                denied("mend thing " + thing, Houses::busy, x -> x.care(thing, true));
            }
        });
        sentence(11, "(None of them OUT, nor in a trunk that is.)", () -> {
            for (int thing = 7; thing <= 9; thing++) {
                int one = thing;
                denied("wash " + one, Houses::busy, x -> x.care(one, false));
                denied("mend " + one, () -> {
                    CostumeStock x = Houses.busy();
                    x.set(1, one, 5);
                    return x;
                }, x -> x.care(one, true));
            }
            due("in a trunk that is not", Houses.busy().care(3, false), true);
        });
    }

    private static void promise12() {
        sentence(12, "To HIRE out: DUE;", () -> {
            CostumeStock x = Houses.small();
            due("hired", x.hire(0, 4, 20), 4);
            due("its due", x.of(0, 7), 4);
            due("the book", x.book(0, 2), 5);
        });
        sentence(12, "for 1 .. 99 DAYS at a deposit 0 .. 9999:", () -> {
            due("1 day", Houses.small().hire(0, 1, 5), 1);
            due("99 days", Houses.small().hire(0, 99, 5), 99);
            CostumeStock x = Houses.small();
            due("deposit 0", x.hire(0, 5, 0), 5);
            due("purse", x.look(4), 0);
            x.back(0, 0);
            due("deposit 9999", x.hire(0, 5, 9999), 5);
            due("purse", x.look(4), 9999);
            for (int days : new int[] {0, 100, -1, Integer.MIN_VALUE, Integer.MAX_VALUE}) {
                refused(days + " days", Houses::busy, y -> y.hire(0, days, 5), NONE);
            }
            for (int deposit : new int[] {-1, 10000, Integer.MIN_VALUE, Integer.MAX_VALUE}) {
                refused("deposit " + deposit, Houses::busy, y -> y.hire(0, 5, deposit), NONE);
            }
        });
        sentence(12, "NONE if it can't be.", () -> {
            for (int thing : new int[] {-1, 10, Integer.MIN_VALUE, Integer.MAX_VALUE}) {
                refused("thing " + thing, Houses::busy, x -> x.hire(thing, 5, 5), NONE);
            }
            due("the last one", Houses.full().hire(15, 1, 1), 1);
        });
        sentence(12, "DUE is DAY and these DAYS; PURSE is the deposit more.", () -> {
            CostumeStock x = Houses.small();
            x.days(7);
            x.set(4, 0, Integer.MAX_VALUE);
            due("due", x.hire(0, 3, 2), 10);
            due("the purse wraps", x.look(4), Integer.MIN_VALUE + 1);
            CostumeStock last = lastDay();
            due("on the last day", last.hire(0, 99, 0), 10098);
        });
    }

    /** The small house on day 9999. */
    private static CostumeStock lastDay() {
        CostumeStock x = Houses.small();
        for (int i = 0; i < 166; i++) {
            x.days(60);
        }
        x.days(39);
        return x;
    }

    private static void promise12out() {
        sentence(12, "To HIRE out a THING (ASIDE or in a SLOT, not OUT nor in one that is)", () -> {
            due("aside", Houses.busy().hire(1, 1, 0), 3);
            CostumeStock x = Houses.busy();
            due("in a rack", x.hire(0, 1, 0), 3);
            due("its slot is empty", x.slot(1, 7), NONE);
            due("in a trunk", x.hire(3, 1, 0), 3);
            due("its slot is empty", x.slot(16, 2), NONE);
            due("the trunk is not out", x.of(6, 8), 0);
            refused("out", Houses::busy, y -> y.hire(9, 1, 0), NONE);
            refused("a trunk that is out", Houses::busy, y -> y.hire(7, 1, 0), NONE);
            refused("in one that is out", Houses::busy, y -> y.hire(8, 1, 0), NONE);
        });
        sentence(12, "it is OUT (a trunk with all that is in it),", () -> {
            CostumeStock x = Houses.busy();
            x.hire(5, 2, 0);
            due("the trunk", x.of(5, 5), 100);
            due("no slot", x.of(5, 6), NONE);
            due("in it", x.of(6, 8), 1);
            due("deep in it", x.of(3, 8), 1);
            due("it is in it yet", x.of(6, 5), 15);
            due("in its slot", x.of(6, 6), 1);
            due("not hired itself", x.of(6, 7), NONE);
            due("beside it", x.of(0, 8), 0);
        });
    }

    private static void promise13() {
        sentence(13, "BACK: what is paid back;", () -> {
            CostumeStock x = Houses.small();
            x.hire(0, 2, 80);
            due("all of it", x.back(0, 0), 80);
            due("purse", x.look(4), 0);
            due("the book", x.book(1, 2), 6);
        });
        sentence(13, "NONE if it was not HIRED out itself, or one can't be.", () -> {
            refused("aside", Houses::busy, x -> x.back(1, 0), NONE);
            refused("in a rack", Houses::busy, x -> x.back(0, 0), NONE);
            refused("in a trunk that is out", Houses::busy, x -> x.back(8, 0), NONE);
            for (int thing : new int[] {-1, 10, Integer.MIN_VALUE, Integer.MAX_VALUE}) {
                refused("thing " + thing, Houses::busy, x -> x.back(thing, 0), NONE);
            }
            CostumeStock x = Houses.busy();
            due("back", x.back(9, 0), 45);
            due("twice", x.back(9, 0), NONE);
            due("the trunk", x.back(7, 0), 100);
            due("what is in it", x.back(8, 0), NONE);
        });
        sentence(13, "BACK with a damage 0 .. 9: it is ASIDE; TORN is the damage more (9 at most);", () -> {
            for (int damage : new int[] {-1, 10, Integer.MIN_VALUE, Integer.MAX_VALUE}) {
                refused("damage " + damage, Houses::busy, x -> x.back(9, damage), NONE);
            }
            int[][] rows = {{0, 0, 0}, {0, 9, 9}, {8, 1, 9}, {8, 2, 9}, {9, 9, 9}, {9, 0, 9}, {3, 4, 7}};
            for (int[] row : rows) {
                CostumeStock x = Houses.small();
                x.put(0, 0, 1);
                x.set(1, 0, row[0]);
                x.hire(0, 1, 0);
                due("back", x.back(0, row[1]), 0);
                due("torn " + row[0] + " and " + row[1], x.of(0, 3), row[2]);
                due("aside", x.of(0, 5), NONE);
                due("no slot", x.of(0, 6), NONE);
                due("no due", x.of(0, 7), NONE);
                due("its slot stays empty", x.slot(0, 1), NONE);
            }
        });
        sentence(13, "it is ASIDE;", () -> {
            CostumeStock x = Houses.busy();
            x.back(7, 0);
            due("a trunk", x.of(7, 5), NONE);
            due("what is in it stays in it", x.of(8, 5), 17);
            due("and is not out", x.of(8, 8), 0);
            due("is not damaged", x.of(8, 3), Houses.busy().of(8, 3));
        });
    }

    /** What is paid back of a deposit for two days, some days later, with a damage. */
    private static void paid(int deposit, int days, int damage, int due) {
        CostumeStock x = Houses.small();
        x.hire(0, 2, deposit);
        x.days(days);
        due("deposit " + deposit + ", day " + days + ", damage " + damage, x.back(0, damage), due);
        due("the purse keeps the rest", x.look(4), deposit - due);
        due("the book has the purse then", x.book(1, 3), deposit - due);
    }

    private static void promise13paid() {
        sentence(13, "PURSE is the deposit less, but 10 for each of the damage and 5 for each DAY behind DUE (the deposit at most) stay.",
            () -> {
                paid(100, 1, 0, 100);
                paid(100, 2, 0, 100);
                paid(100, 3, 0, 95);
                paid(100, 4, 3, 60);
                paid(100, 1, 9, 10);
                paid(90, 1, 9, 0);
                paid(91, 2, 9, 1);
                paid(89, 2, 9, 0);
                paid(95, 3, 9, 0);
                paid(96, 3, 9, 1);
                paid(94, 3, 9, 0);
                paid(0, 60, 9, 0);
                paid(9999, 60, 9, 9999 - 90 - 290);
            });
        sentence(13, "PURSE is the deposit less,", () -> {
            CostumeStock x = Houses.small();
            x.hire(0, 5, 30);
            x.set(4, 0, Integer.MIN_VALUE + 9);
            due("paid back", x.back(0, 2), 10);
            due("the purse wraps", x.look(4), Integer.MAX_VALUE);
        });
        sentence(13, "10 for each of the damage", () -> {
            CostumeStock x = Houses.small();
            x.set(1, 0, 9);
            x.hire(0, 5, 100);
            due("also of a damage that tears no more", x.back(0, 4), 60);
        });
    }

    private static void promise14() {
        sentence(14, "DAYS go by (1 .. 60):", () -> {
            CostumeStock x = Houses.small();
            due("1", x.days(1), 0);
            due("day", x.look(3), 1);
            due("60", x.days(60), 0);
            due("day", x.look(3), 61);
        });
        sentence(14, "NONE, and nothing is done, if one can't be, or DAY would be above 9999.", () -> {
            for (int n : new int[] {0, 61, -1, Integer.MIN_VALUE, Integer.MAX_VALUE}) {
                refused("days(" + n + ")", Houses::busy, x -> x.days(n), NONE);
            }
            CostumeStock x = Houses.small();
            for (int i = 0; i < 166; i++) {
                x.days(60);
            }
            due("day", x.look(3), 9960);
            due("to 10000", x.days(40), NONE);
            due("day", x.look(3), 9960);
            due("to 9999", x.days(39), 0);
            due("day", x.look(3), 9999);
            refused("one more", Promises08To14::lastDay, y -> y.days(1), NONE);
        });
        sentence(14, "DAY is one more.", () -> {
            CostumeStock x = new CostumeStock();
            due("without things", x.days(1), 0);
            due("day", x.look(3), 1);
            due("no line of the book", x.look(5), 0);
        });
        sentence(14, "DAY 0 .. 9999 (0 at first).", () -> {
            CostumeStock x = lastDay();
            due("the last", x.look(3), 9999);
            x.care(0, false);
            due("in the book", x.book(0, 0), 9999);
        });
    }

    private static void promise14things() {
        sentence(14, "A DAY. THING by THING that is OUT (or in a trunk that is): WORN one more (999 at most), DIRT dirt more (9 at most);",
            () -> {
                CostumeStock x = Houses.busy();
                int[] worn = new int[10];
                int[] dirt = new int[10];
                for (int thing = 0; thing < 10; thing++) {
                    worn[thing] = x.of(thing, 4);
                    dirt[thing] = x.of(thing, 2);
                }
                x.days(1);
                for (int thing = 0; thing < 10; thing++) {
                    int more = thing >= 7 ? 1 : 0;
                    due("worn of " + thing, x.of(thing, 4), worn[thing] + more);
                    due("dirt of " + thing, x.of(thing, 2), dirt[thing] + more);
                }
            });
        sentence(14, "WORN one more (999 at most), DIRT dirt more (9 at most);", () -> {
            CostumeStock x = Houses.small();
            Check.tell(x, 1, "dirt 3;");
            x.hire(0, 9, 0);
            x.set(2, 0, 997);
            x.set(0, 0, 2);
            int[] worn = {998, 999, 999};
            int[] dirt = {5, 8, 9};
            for (int day = 0; day < 3; day++) {
                x.days(1);
                due("worn", x.of(0, 4), worn[day]);
                due("dirt", x.of(0, 2), dirt[day]);
            }
        });
        sentence(14, "then, if tear is above 0 (dirt, tear asked ahead of both),", () -> {
            CostumeStock x = Houses.small();
            Check.tell(x, 1, "dirt 2 when worn<2;dirt 5;tear 1000 when dirt>3 or worn>2;");
            x.hire(0, 9, 0);
            due("day 0: worn 0, dirt 0", x.days(1), 0);
            due("dirt", x.of(0, 2), 2);
            due("day 1: worn 1, dirt 2", x.days(1), 0);
            due("dirt", x.of(0, 2), 4);
            due("day 2: worn 2, dirt 4", x.days(1), 1);
            due("dirt", x.of(0, 2), 9);
        });
    }

    private static int next(int state) {
        return 1664525 * state + 1013904223;
    }

    private static void promise14draws() {
        sentence(14, "a DRAW of m: it becomes 1664525 times itself + 1013904223 (ints, which wrap), then it is its highest 24 bits (without sign) modulo m.",
            () -> {
                int[] states = {0, 1, -1, 77, 123456789, Integer.MAX_VALUE, Integer.MIN_VALUE, -987654321};
                int below = 0;
                for (int state : states) {
                    int due = next(state);
                    int drawn = (int) (((due & 0xffffffffL) / 256) % 1000);
                    below += due < 0 ? 1 : 0;
                    for (int tear = Math.max(1, drawn); tear <= drawn + 1; tear++) {
                        CostumeStock x = Houses.small();
                        Check.tell(x, 1, "tear " + tear + ";");
                        x.hire(0, 9, 0);
                        x.state(state);
                        due("state " + state + ", tear " + tear, x.days(1), drawn < tear ? 1 : 0);
                        due("state then", x.look(6), due);
                    }
                }
                due("some have the sign", below > 1 && below < states.length, true);
            });
        sentence(14, "if tear is above 0", () -> {
            CostumeStock x = Houses.small();
            x.hire(0, 9, 0);
            x.days(1);
            due("no law: no draw", x.look(6), 0);
            Check.tell(x, 1, "tear 0;");
            x.days(1);
            due("tear 0: no draw", x.look(6), 0);
            Check.tell(x, 1, "tear 0-1;");
            x.days(1);
            due("below 0: no draw", x.look(6), 0);
            Check.tell(x, 1, "tear 1;");
            x.days(1);
            due("tear 1: a draw", x.look(6), next(0));
        });
        sentence(14, "THING by THING that is OUT", () -> {
            CostumeStock x = new CostumeStock();
            for (int kind = 0; kind < 4; kind++) {
                x.thing(kind, 0);
            }
            // Hired in another order than theirs; 1 is not out and draws nothing.
            x.hire(3, 9, 0);
            x.hire(0, 9, 0);
            x.hire(2, 9, 0);
            Check.tell(x, 1, "tear 500;");
            int state = 4;
            x.state(state);
            int[] torn = new int[4];
            for (int day = 0; day < 6; day++) {
                for (int thing : new int[] {0, 2, 3}) {
                    state = next(state);
                    torn[thing] += (state >>> 8) % 1000 < 500 ? 1 : 0;
                }
            }
            x.days(6);
            for (int thing = 0; thing < 4; thing++) {
                due("torn of " + thing, x.of(thing, 3), torn[thing]);
            }
            due("state", x.look(6), state);
            due("they differ", torn[0] != torn[2] || torn[2] != torn[3], true);
        });
    }

    private static void promise14tears() {
        sentence(14, "a DRAW of 1000: below it", () -> {
            int state = 0;
            while ((next(state) >>> 8) % 1000 != 999) {
                state++;
            }
            CostumeStock x = Houses.small();
            x.hire(0, 9, 0);
            x.state(state);
            Check.tell(x, 1, "tear 999;");
            due("the greatest draw is not below 999", x.days(1), 0);
            x.state(state);
            Check.tell(x, 1, "tear 1000;");
            due("it is below 1000", x.days(1), 1);
            int least = 0;
            while ((next(least) >>> 8) % 1000 != 0) {
                least++;
            }
            x.state(least);
            Check.tell(x, 1, "tear 1;");
            due("the least draw is below 1", x.days(1), 1);
        });
        sentence(14, "how many THINGS were TORN more.", () -> {
            CostumeStock x = new CostumeStock();
            for (int i = 0; i < 3; i++) {
                x.thing(0, 0);
            }
            Check.tell(x, 1, "tear 1000;");
            due("none is out", x.days(3), 0);
            x.hire(0, 9, 0);
            due("one", x.days(1), 1);
            x.hire(1, 9, 0);
            due("two", x.days(1), 2);
            due("on each of three days", x.days(3), 6);
        });
        sentence(14, "a DRAW of 1000: below it TORN is one more (9 at most).", () -> {
            CostumeStock x = Houses.small();
            Check.tell(x, 1, "tear 1000;");
            x.hire(0, 9, 0);
            x.set(1, 0, 8);
            due("from 8 to 9", x.days(1), 1);
            due("torn", x.of(0, 3), 9);
            int state = x.look(6);
            due("no more than 9", x.days(1), 0);
            due("torn", x.of(0, 3), 9);
            due("drawn all the same", x.look(6), next(state));
        });
    }
}
