import java.util.List;
import java.util.function.Consumer;

/** Promises 37 to 42, sentence by sentence: wishes, shares, undo, the image, and what is told of all. */
final class Promises37To42 extends Promises {
    private static final int[] OTHER_WHATS = {-1, 2, Integer.MIN_VALUE, Integer.MAX_VALUE};

    /** Every act, and a day, that the calm house allows. */
    private static final List<Consumer<CostumeStock>> ACTS = List.of(
        x -> due("put", x.put(1, 15, 3), true),
        x -> due("take", x.take(0, 0), 5),
        x -> due("alter", x.alter(0, 1), 9),
        x -> due("alter back", x.alter(0, NONE), 0),
        x -> due("wash", x.care(1, false), true),
        x -> due("mend", x.care(0, true), true),
        x -> due("hire", x.hire(5, 4, 77), 6),
        x -> due("back", x.back(9, 3), 15),
        x -> due("a day", x.days(1) >= 0, true));

    static void all() {
        promise37();
        promise37refused();
        promise38();
        promise38days();
        promise39();
        promise40();
        promise40kept();
        promise40forgotten();
        promise41();
        promise41notOfIt();
        promise42();
        promise42late();
        promise42refused();
    }

    private static CostumeStock two() {
        CostumeStock x = new CostumeStock();
        x.thing(0, 0);
        x.thing(5, 0);
        return x;
    }

    private static void promise37() {
        sentence(37, "A WISH (thing NONE: none is then): how many;", () -> {
            CostumeStock x = two();
            due("the first", x.wish(0, 3, 2, 5), 1);
            due("the second", x.wish(1, 3, 2, 6), 2);
            due("how many", x.look(13), 2);
            due("both", x.earns(1), 3);
            due("none", x.wish(NONE, 3, 2, 6), 0);
            due("how many", x.look(13), 0);
            due("nothing is earned", x.earns(0), 0);
            due("no set", x.earns(1), 0);
            due("none of none", x.wish(NONE, -1, 0, -1), 0);
            due("the first again", x.wish(1, 0, 1, 7), 1);
            due("it alone", x.earns(0), 7);
            x.wish(1, 0, 1, 8);
            due("one of two on one day", x.earns(0), 8);
            x.wish(NONE, 0, 0, 0);
            x.wish(1, 0, 1, 7);
            x.wish(1, 1, 1, 8);
            due("nothing is left of the earlier ones", x.earns(0), 15);
        });
        sentence(37, "WISHES, up to 10: a THING, from a DAY for n DAYS, for so much.", () -> {
            CostumeStock x = two();
            for (int i = 0; i < 10; i++) {
                due("wish " + i, x.wish(i % 2, i, 1, i), i + 1);
            }
            due("all ten", x.earns(0), 45);
            due("none", x.wish(NONE, 0, 1, 0), 0);
            due("one again", x.wish(0, 0, 1, 0), 1);
        });
    }

    private static void promise37refused() {
        sentence(37, "NONE if one can't be (DAY 0 .. 9999, n 1 .. 99, pays 0 .. 9999),", () -> {
            CostumeStock x = two();
            due("day 0", x.wish(0, 0, 1, 1), 1);
            due("day 9999", x.wish(0, 9999, 1, 1), 2);
            due("n 1", x.wish(0, 100, 1, 1), 3);
            due("n 99", x.wish(0, 200, 99, 1), 4);
            due("pays 0", x.wish(0, 300, 1, 0), 5);
            due("pays 9999", x.wish(0, 400, 1, 9999), 6);
            due("the last thing", x.wish(1, 9999, 99, 9999), 7);
            for (int day : new int[] {-1, 10000, Integer.MIN_VALUE, Integer.MAX_VALUE}) {
                refused("day " + day, Houses::busy, y -> y.wish(0, day, 1, 1), NONE);
            }
            for (int n : new int[] {0, 100, -1, Integer.MIN_VALUE, Integer.MAX_VALUE}) {
                refused("n " + n, Houses::busy, y -> y.wish(0, 1, n, 1), NONE);
            }
            for (int pays : new int[] {-1, 10000, Integer.MIN_VALUE, Integer.MAX_VALUE}) {
                refused("pays " + pays, Houses::busy, y -> y.wish(0, 1, 1, pays), NONE);
            }
            for (int thing : new int[] {-2, 10, Integer.MIN_VALUE, Integer.MAX_VALUE}) {
                refused("thing " + thing, Houses::busy, y -> y.wish(thing, 1, 1, 1), NONE);
            }
        });
        sentence(37, "or there are ten.", () -> {
            due("there are ten", Houses.full().look(13), 10);
            refused("the 11th", Houses::full, x -> x.wish(0, 1, 1, 1), NONE);
            refused("the 11th, that can't be", Houses::full, x -> x.wish(16, 1, 1, 1), NONE);
        });
    }

    private static void promise38() {
        sentence(38, "EARNS what 0 the sum, 1 the set.", () -> {
            CostumeStock x = two();
            due("no wishes: the sum", x.earns(0), 0);
            due("no wishes: the set", x.earns(1), 0);
            x.wish(0, 1, 1, 8);
            due("one: the sum", x.earns(0), 8);
            due("one: the set", x.earns(1), 1);
            due("busy: the greater of two", Houses.busy().earns(0), 40);
            due("busy: its set", Houses.busy().earns(1), 1);
        });
        sentence(38, "NONE for another what.", () -> {
            for (int what : OTHER_WHATS) {
                refused("earns(" + what + ")", Houses::busy, x -> x.earns(what), NONE);
            }
        });
        sentence(38, "the greatest sum; the set: of several the least.", () -> {
            CostumeStock x = two();
            x.wish(0, 0, 5, 10);
            x.wish(0, 5, 5, 10);
            x.wish(0, 4, 2, 20);
            due("20 either way", x.earns(0), 20);
            due("the least set", x.earns(1), 3);
            x.wish(0, 4, 2, 20);
            due("the least yet", x.earns(1), 3);
            x.wish(1, 4, 2, 0);
            due("what pays nothing is not in the least", x.earns(1), 3);
            x.wish(0, 3, 1, 1);
            due("21 with the lesser of two alike", x.earns(0), 21);
            due("its set", x.earns(1), 4 + 32);
            CostumeStock nothing = two();
            nothing.wish(0, 0, 1, 0);
            due("nothing: the sum", nothing.earns(0), 0);
            due("nothing: the empty set", nothing.earns(1), 0);
            CostumeStock most = two();
            for (int i = 0; i < 10; i++) {
                most.wish(0, 99 * i, 99, 9999);
            }
            due("the most", most.earns(0), 99990);
            due("all ten", most.earns(1), 1023);
        });
    }

    /** Whether two wishes for one thing can both be. */
    private static void both(int day, int n, int otherDay, int otherN, boolean due) {
        CostumeStock x = two();
        x.wish(0, day, n, 5);
        x.wish(0, otherDay, otherN, 7);
        String wishes = day + " for " + n + " and " + otherDay + " for " + otherN;
        due(wishes, x.earns(0), due ? 12 : 7);
        due(wishes + ": the set", x.earns(1), due ? 3 : 2);
        CostumeStock y = two();
        y.wish(0, day, n, 5);
        y.wish(1, otherDay, otherN, 7);
        due(wishes + ", two things", y.earns(0), 12);
    }

    private static void promise38days() {
        sentence(38, "EARNS: of sets of WISHES in which no THING is wished for twice in one DAY", () -> {
            both(10, 5, 15, 5, true);
            both(10, 5, 14, 5, false);
            both(10, 5, 5, 5, true);
            both(10, 5, 6, 5, false);
            both(10, 5, 10, 5, false);
            both(10, 5, 12, 1, false);
            both(10, 1, 10, 1, false);
            both(10, 1, 11, 1, true);
            both(10, 1, 9, 1, true);
            both(0, 99, 99, 99, true);
            both(0, 99, 98, 99, false);
            both(9998, 1, 9999, 99, true);
            both(9998, 2, 9999, 99, false);
            both(9999, 99, 9999, 1, false);
        });
    }

    private static void promise39() {
        sentence(39, "SHARE of n (1 .. 8) of PURSE above 0: an equal part each, one cent more to each of the first ones, as many as are odd; of one rank i (0 .. n - 1).",
            () -> {
                CostumeStock x = new CostumeStock();
                for (int purse : new int[] {1, 7, 8, 9, 100, 839, Integer.MAX_VALUE}) {
                    x.set(4, 0, purse);
                    for (int n : new int[] {1, 2, 3, 7, 8}) {
                        long sum = 0;
                        for (int i = 0; i < n; i++) {
                            int due = purse / n + (i < purse - purse / n * n ? 1 : 0);
                            due(purse + ": share(" + n + ", " + i + ")", x.share(n, i), due);
                            sum += x.share(n, i);
                        }
                        due("all of " + purse + " by " + n, sum, purse);
                    }
                }
                due("nothing was paid", x.look(4), Integer.MAX_VALUE);
            });
        sentence(39, "Quotients go downwards but where it is said.", () -> {
            CostumeStock x = new CostumeStock();
            x.set(4, 0, 15);
            due("15 by 8, the first", x.share(8, 0), 2);
            due("15 by 8, the last but one", x.share(8, 6), 2);
            due("15 by 8, the last", x.share(8, 7), 1);
        });
        sentence(39, "SHARE; NONE if one can't be (0 if PURSE is not above 0).", () -> {
            for (int purse : new int[] {0, -1, -16, Integer.MIN_VALUE}) {
                CostumeStock x = new CostumeStock();
                x.set(4, 0, purse);
                due(purse + " by 1", x.share(1, 0), 0);
                due(purse + " by 8, the last", x.share(8, 7), 0);
                due(purse + " by 8, behind the last", x.share(8, 8), NONE);
            }
            for (int n : new int[] {0, 9, -1, Integer.MIN_VALUE, Integer.MAX_VALUE}) {
                refused("share(" + n + ", 0)", Houses::busy, x -> x.share(n, 0), NONE);
            }
            for (int n : new int[] {1, 8}) {
                due("the first rank", Houses.busy().share(n, 0) > 0, true);
                due("the last rank", Houses.busy().share(n, n - 1) > 0, true);
                for (int i : new int[] {-1, n, Integer.MIN_VALUE, Integer.MAX_VALUE}) {
                    refused("share(" + n + ", " + i + ")", Houses::busy, x -> x.share(n, i), NONE);
                }
            }
        });
    }

    private static void promise40() {
        sentence(40, "UNDO: true; false if there is nothing.", () -> {
            CostumeStock x = Houses.small();
            due("nothing", x.undo(), false);
            x.put(0, 0, 0);
            due("an act", x.undo(), true);
            due("nothing more", x.undo(), false);
            denied("nothing in a new house", CostumeStock::new, CostumeStock::undo);
            denied("nothing in a calm house", Houses::calm, CostumeStock::undo);
        });
        sentence(40, "UNDO: the latest act or DAY not undone yet goes back (STATE, THE BOOK, too):", () -> {
            for (int i = 0; i < ACTS.size(); i++) {
                CostumeStock x = Houses.calm();
                ACTS.get(i).accept(x);
                due("one can be undone", x.look(11), 1);
                due("undone", x.undo(), true);
                Trace.same("act " + i + " undone leaves", x, Houses.calm());
            }
        });
        sentence(40, "the latest act or DAY not undone yet goes back", () -> {
            for (int i = 0; i + 1 < ACTS.size(); i++) {
                CostumeStock x = Houses.calm();
                ACTS.get(i).accept(x);
                x.days(1);
                x.care(4, false);
                due("two undone", x.undo() && x.undo(), true);
                CostumeStock y = Houses.calm();
                ACTS.get(i).accept(y);
                Trace.same("behind act " + i + " two undone leave", x, y);
            }
            CostumeStock days = Houses.calm();
            days.days(5);
            due("each day for itself", days.look(11), 5);
            for (int i = 0; i < 3; i++) {
                days.undo();
            }
            CostumeStock two = Houses.calm();
            two.days(2);
            Trace.same("three of five days undone leave", days, two);
        });
    }

    private static void promise40kept() {
        sentence(40, "6 are kept;", () -> {
            for (int first = 0; first + 1 < ACTS.size(); first++) {
                CostumeStock x = Houses.calm();
                ACTS.get(first).accept(x);
                for (int i = 0; i < 6; i++) {
                    due("kept", x.look(11), i + 1);
                    x.care(4, false);
                }
                due("one more is kept, the oldest forgotten", x.look(11), 6);
                for (int i = 5; i >= 0; i--) {
                    due("undo", x.undo(), true);
                    due("left", x.look(11), i);
                }
                due("the oldest is forgotten", x.undo(), false);
                CostumeStock y = Houses.calm();
                ACTS.get(first).accept(y);
                y.set(4, 0, y.look(4));
                Trace.same("six behind act " + first + " undone leave", x, y);
            }
        });
        sentence(40, "6 are kept;", () -> {
            CostumeStock x = Houses.calm();
            x.days(60);
            due("six of sixty days", x.look(11), 6);
            for (int i = 0; i < 7; i++) {
                due("undo", x.undo(), i < 6);
            }
            due("54 days have gone by", x.look(3), 2 + 54);
            x.days(4);
            x.undo();
            x.undo();
            x.days(1);
            due("two and one", x.look(11), 3);
            due("day", x.look(3), 59);
        });
    }

    private static void forgets(String what, Consumer<CostumeStock> tell) {
        CostumeStock x = Houses.busy();
        due("six to undo", x.look(11), 6);
        tell.accept(x);
        due(what + " forgets all", x.look(11), 0);
        due(what + ": nothing to undo", x.undo(), false);
        x.care(0, false);
        due(what + ": one act more", x.look(11), 1);
    }

    private static void keeps(String what, Consumer<CostumeStock> tell) {
        CostumeStock x = Houses.busy();
        tell.accept(x);
        due(what + " forgets none", x.look(11), 6);
        for (int i = 0; i < 6; i++) {
            due(what + ": undo", x.undo(), true);
        }
        due(what + ": the day of the oldest", x.look(3), 0);
        due(what + ": the lines of the oldest", x.look(5), 3);
    }

    private static void promise40forgotten() {
        sentence(40, "whatever else is told but LAWS, SCENES, WISHES (the taking of THE IMAGE does not) forgets them.", () -> {
            forgets("state", x -> x.state(x.look(6)));
            forgets("thing", x -> x.thing(0, 0));
            forgets("actor", CostumeStock::actor);
            forgets("rack", x -> x.rack(1));
            forgets("measure of a thing", x -> x.measure(false, 0, 0, 50));
            forgets("measure of an actor", x -> x.measure(true, 0, 0, 52));
            for (int what = 0; what <= 4; what++) {
                int number = what;
                forgets("set " + what, x -> x.set(number, 0, 2));
            }
            forgets("going back to the image", x -> x.image(false));
        });
        sentence(40, "but LAWS, SCENES, WISHES (the taking of THE IMAGE does not)", () -> {
            keeps("a law", x -> Check.tell(x, 0, "cost 1;mend 2;"));
            keeps("a law of days", x -> Check.tell(x, 1, "dirt 1;"));
            keeps("scenes", x -> Check.tell(x, 2, "scene 1;"));
            keeps("a text with a fault", x -> Check.tell(x, 2, "scene"));
            keeps("no such text", x -> x.text(3));
            keeps("the tape", x -> Check.feed(x, "cost"));
            keeps("a wish", x -> x.wish(0, 1, 1, 1));
            keeps("no wishes", x -> x.wish(NONE, 0, 1, 0));
            keeps("the taking of the image", x -> x.image(true));
        });
        sentence(40, "LAWS, SCENES, WISHES", () -> {
            CostumeStock x = Houses.calm();
            x.end(0);
            x.care(1, false);
            Check.tell(x, 0, "cost 7;");
            Check.tell(x, 1, "");
            Check.tell(x, 2, "scene 8;");
            x.wish(1, 1, 1, 900);
            due("undone", x.undo(), true);
            due("dirt", x.of(1, 2), 3);
            due("the law stays", x.cost(0, 0), 7);
            due("the law of days stays", x.look(8), 0);
            due("the scenes stay", x.look(30), 8);
            due("the wishes stay", x.earns(0), 940);
        });
    }

    /** The busy house gone back to its image, by telling: the state was 77 then. */
    private static CostumeStock goneBack() {
        CostumeStock x = Houses.pictured();
        x.state(77);
        Check.tell(x, 0, "cost 1/0;");
        Check.feed(x, "mend 9;");
        return x;
    }

    private static void promise41() {
        sentence(41, "THE IMAGE is taken (true), or gone back to (false): true; false if there is none.", () -> {
            CostumeStock x = Houses.small();
            denied("none", Houses::small, y -> y.image(false));
            due("taken", x.image(true), true);
            due("gone back to", x.image(false), true);
            denied("none behind acts", () -> {
                CostumeStock y = Houses.small();
                y.put(0, 0, 0);
                return y;
            }, y -> y.image(false));
        });
        sentence(41, "THE IMAGE: all that is and was told", () -> {
            CostumeStock x = Houses.busy();
            due("gone back", x.image(false), true);
            Trace.same("gone back it has", x, goneBack());
        });
        sentence(41, "as it was when it was taken; gone back to it may be more than once.", () -> {
            CostumeStock x = Houses.busy();
            for (int turn = 0; turn < 3; turn++) {
                changeAll(x);
                due("gone back", x.image(false), true);
            }
            Check.tell(x, 0, "cost 1/0;");
            Check.feed(x, "mend 9;");
            Trace.same("gone back three times it has", x, goneBack());
        });
        sentence(41, "as it was when it was taken;", () -> {
            CostumeStock x = Houses.calm();
            x.put(1, 0, 1);
            x.put(2, 0, 2);
            x.image(true);
            x.undo();
            x.undo();
            x.care(4, false);
            x.care(1, false);
            x.image(false);
            CostumeStock y = Houses.calm();
            y.put(1, 0, 1);
            y.put(2, 0, 2);
            y.image(true);
            y.set(4, 0, y.look(4));
            Trace.same("what was undone and done anew leaves", x, y);
        });
        sentence(41, "as it was when it was taken;", () -> {
            CostumeStock x = Houses.busy();
            due("taken anew", x.image(true), true);
            changeAll(x);
            x.image(false);
            due("the later day", x.look(3), 2);
            due("the later hire", x.of(9, 5), 100);
            due("the later purse", x.look(4), 650);
            due("the later lines", x.look(5), 7);
            CostumeStock empty = new CostumeStock();
            empty.image(true);
            empty.thing(0, 0);
            empty.image(false);
            Trace.same("an empty house gone back to has", empty, imaged());
        });
    }

    private static CostumeStock imaged() {
        CostumeStock x = new CostumeStock();
        x.image(true);
        return x;
    }

    /** Tells all anew and does whatever can be done. */
    private static void changeAll(CostumeStock x) {
        x.end(0);
        Check.tell(x, 0, "cost 1;");
        Check.tell(x, 1, "tear 999;dirt 9;");
        Check.tell(x, 2, "scene 1 wear 1 set;scene 2;scene 3;");
        for (int thing = 0; thing < 10; thing++) {
            x.measure(false, thing, 0, 90);
            x.measure(false, thing, 3, 80);
            for (int what = 0; what <= 3; what++) {
                x.set(what, thing, 8);
            }
        }
        x.thing(5, 20);
        x.thing(0, 20);
        x.measure(false, 11, 2, 33);
        x.actor();
        x.measure(true, 2, 2, 33);
        x.measure(true, 0, 1, 12);
        x.rack(5);
        x.state(-5);
        x.set(4, 0, -999);
        x.wish(NONE, 0, 0, 0);
        x.wish(1, 1, 1, 1);
        x.wish(2, 1, 1, 1);
        x.wish(3, 1, 1, 1);
        x.back(7, 9);
        x.back(9, 9);
        x.take(0, 0);
        x.put(11, 20, 1);
        x.put(10, 2, 4);
        x.hire(5, 50, 5000);
        x.alter(11, 2);
        x.care(1, true);
        x.days(20);
    }

    private static void promise41notOfIt() {
        sentence(41, "but the TAPE, fault() and what can be undone (nothing then),", () -> {
            CostumeStock x = Houses.small();
            Check.feed(x, "cost 1;");
            x.care(0, false);
            x.image(true);
            Check.faulty(x, 0, "mend", 1, 4);
            Check.feed(x, "mend 1;mend 2;");
            x.image(false);
            due("nothing to undo", x.look(11), 0);
            due("nothing to undo", x.undo(), false);
            due("the fault as it is", x.fault(0), 1);
            due("its place as it is", x.fault(1), 4);
            due("the tape as it is", x.end(14), true);
            due("not longer", x.end(15), false);
            due("two lines", x.text(0), 2);
            x.image(false);
            due("no fault", x.fault(0), 0);
            due("no byte", x.end(1), false);
            due("the law of the image", x.look(7), 0);
        });
        sentence(41, "what can be undone (nothing then),", () -> {
            CostumeStock x = Houses.busy();
            x.image(true);
            due("taking it forgets none", x.look(11), 6);
            x.care(0, false);
            x.image(false);
            due("nothing then", x.undo(), false);
            x.care(0, false);
            due("an act more", x.look(11), 1);
            due("undone", x.undo(), true);
            due("to the image", x.look(5), 7);
        });
    }

    private static void promise42() {
        sentence(42, "What 0 THINGS, 1 ACTORS, 2 RACKS, 3 DAY, 4 PURSE, 5 lines of THE BOOK, 6 STATE, 7, 8 lines of both LAWS, 9 scenes, 10 WEARS, 11 what can be undone, 12 LATE, 13 WISHES, 20 + r SLOTS of RACK r, 30 + i MINUTES of scene i.",
            () -> {
                CostumeStock x = Houses.busy();
                int state = 77;
                for (int draw = 0; draw < 6; draw++) {
                    state = 1664525 * state + 1013904223;
                }
                int[] due = {10, 2, 2, 2, 650, 7, state, 2, 3, 2, 3, 6, 1 << 9, 2};
                for (int what = 0; what < due.length; what++) {
                    due("look(" + what + ")", x.look(what), due[what]);
                }
                int[] rows = {20, 21, 30, 31};
                int[] told = {3, 8, 4, 9};
                for (int i = 0; i < 4; i++) {
                    due("look(" + rows[i] + ")", x.look(rows[i]), told[i]);
                }
            });
        sentence(42, "20 + r SLOTS of RACK r, 30 + i MINUTES of scene i.", () -> {
            CostumeStock x = Houses.full();
            int[] due = {16, 6, 4, 0, 0, 120, 0, 16, 16, 6, 6, 6, 0, 10};
            for (int what = 0; what < due.length; what++) {
                due("look(" + what + ")", x.look(what), due[what]);
            }
            for (int rack = 0; rack < 4; rack++) {
                due("slots of " + rack, x.look(20 + rack), 8);
            }
            for (int scene = 0; scene < 6; scene++) {
                due("minutes of " + scene, x.look(30 + scene), 9);
            }
            due("no 5th rack", x.look(24), NO_LINE);
            due("no 7th scene", x.look(36), NO_LINE);
            x.end(0);
            Check.tell(x, 2, "scene 0;scene 99;");
            due("0 minutes", x.look(30), 0);
            due("99 minutes", x.look(31), 99);
            due("no third scene now", x.look(32), NO_LINE);
        });
        sentence(42, "(STATE, PURSE as they are.)", () -> {
            CostumeStock x = new CostumeStock();
            for (int v : new int[] {NONE, NO_SUCH, NO_LINE, Integer.MIN_VALUE, Integer.MAX_VALUE}) {
                x.state(v);
                x.set(4, 0, v);
                due("state", x.look(6), v);
                due("purse", x.look(4), v);
            }
        });
    }

    private static void promise42late() {
        sentence(42, "LATE: THINGS that were HIRED out themselves, OUT yet, DUE below DAY (a set).", () -> {
            CostumeStock x = Houses.calm();
            // 7, with 8 in it, is due on day 3; 9 on day 1; it is day 2.
            due("day 2", x.look(12), 1 << 9);
            x.days(1);
            due("day 3, on which it is due", x.look(12), 1 << 9);
            x.days(1);
            due("day 4: itself, not what is in it", x.look(12), (1 << 9) + (1 << 7));
            x.back(9, 0);
            due("out no more", x.look(12), 1 << 7);
            x.undo();
            due("out again", x.look(12), (1 << 9) + (1 << 7));
            x.back(7, 0);
            x.back(9, 0);
            due("none", x.look(12), 0);
            CostumeStock full = Houses.full();
            for (int thing = 0; thing < 16; thing++) {
                full.hire(thing, 1, 0);
            }
            full.days(1);
            due("none yet", full.look(12), 0);
            full.days(1);
            due("all sixteen", full.look(12), 65535);
        });
    }

    private static void promise42refused() {
        sentence(42, "NONE - 999999 for another what.", () -> {
            int[] others = {-1, 14, 19, 22, 23, 24, 29, 32, 35, 36, 100, Integer.MIN_VALUE, Integer.MAX_VALUE};
            for (int what : others) {
                refused("look(" + what + ")", Houses::busy, x -> x.look(what), NO_LINE);
            }
            due("no rack", new CostumeStock().look(20), NO_LINE);
            due("no scene", new CostumeStock().look(30), NO_LINE);
        });
    }
}
