/** Promises 40 and 41: all undone that was done, and an image from which all goes on. */
public final class UndoImageTest {
    public static void main(String[] args) {
        eachAct();
        sixAreKept();
        whatForgets();
        whatDoesNotForget();
        bookIsWrittenAnew();
        image();
        imageAndUndo();
        imageOfAll();
        Check.finish();
    }

    private static CostumeStock house() {
        CostumeStock x = new CostumeStock();
        x.rack(2);
        x.thing(0, 5);
        x.thing(5, 0);
        x.actor();
        x.measure(false, 0, 0, 50);
        x.measure(true, 0, 0, 53);
        return x;
    }

    private static void eachAct() {
        CostumeStock x = house();
        Check.due("nothing to undo", x.undo(), false);
        x.put(0, 11, 2);
        Check.due("put undone", x.undo(), true);
        Check.due("aside", x.of(0, 5), -1);
        Check.due("empty", x.slot(11, 2), -1);
        Check.due("no line", x.look(5), 0);
        x.put(0, 11, 2);
        x.take(11, 2);
        x.undo();
        Check.due("in it again", x.slot(11, 2), 0);
        x.alter(0, 0);
        x.undo();
        Check.due("now as it was", x.at(0, 0, 1), 50);
        Check.due("purse as it was", x.look(4), 0);
        x.set(0, 0, 5);
        x.set(1, 0, 2);
        Check.due("nothing can be undone", x.look(11), 0);
        x.care(0, false);
        x.care(0, true);
        x.undo();
        Check.due("torn as it was", x.of(0, 3), 2);
        Check.due("purse as it was", x.look(4), 0);
        x.undo();
        Check.due("dirt as it was", x.of(0, 2), 5);
        x.hire(1, 4, 30);
        Check.told(x, 1, "tear 1000;dirt 1;", 2);
        x.days(1);
        x.undo();
        Check.due("day", x.look(3), 0);
        Check.due("state", x.look(6), 0);
        Check.due("worn", x.of(0, 4), 0);
        Check.due("dirt", x.of(0, 2), 5);
        Check.due("torn", x.of(0, 3), 2);
        x.back(1, 3);
        x.undo();
        Check.due("out again", x.of(1, 5), 100);
        Check.due("due", x.of(1, 7), 4);
        Check.due("torn", x.of(1, 3), 0);
        Check.due("purse", x.look(4), 30);
        Check.due("back again", x.back(1, 1), 20);
        x.undo();
        x.undo();
        Check.due("hire undone", x.of(1, 5), -1);
        Check.due("purse", x.look(4), 0);
        Check.due("what is in it stayed", x.of(0, 5), 11);
    }

    private static void sixAreKept() {
        CostumeStock x = house();
        x.days(4);
        Check.due("four days are four", x.look(11), 4);
        x.days(60);
        Check.due("six are kept", x.look(11), 6);
        for (int i = 1; i <= 6; i++) {
            Check.due("undo", x.undo(), true);
            Check.due("day", x.look(3), 64 - i);
            Check.due("left", x.look(11), 6 - i);
        }
        Check.due("a 7th", x.undo(), false);
        Check.due("day", x.look(3), 58);
        x.days(3);
        x.undo();
        x.days(1);
        Check.due("three again", x.look(11), 3);
        x.undo();
        x.undo();
        x.undo();
        Check.due("day", x.look(3), 58);
        Check.due("no more", x.undo(), false);
    }

    private static void forgotten(CostumeStock x, String call) {
        Check.due(call + " forgets", x.look(11), 0);
        Check.due(call + " forgets", x.undo(), false);
        x.care(0, false);
    }

    private static void kept(CostumeStock x, String call) {
        Check.due(call + " does not forget", x.look(11), 1);
    }

    private static void whatForgets() {
        CostumeStock x = house();
        x.care(0, false);
        x.state(0);
        forgotten(x, "state");
        x.thing(0, 0);
        forgotten(x, "thing");
        x.actor();
        forgotten(x, "actor");
        x.rack(1);
        forgotten(x, "rack");
        x.measure(true, 0, 0, 53);
        forgotten(x, "measure of an actor");
        x.measure(false, 0, 0, 50);
        forgotten(x, "measure of a thing");
        x.set(0, 0, 0);
        forgotten(x, "set");
        x.set(4, 0, 0);
        forgotten(x, "set purse");
        x.image(true);
        x.image(false);
        forgotten(x, "going back to the image");
    }

    private static void whatDoesNotForget() {
        CostumeStock x = house();
        x.care(0, false);
        Check.told(x, 0, "cost 1;", 1);
        kept(x, "a law");
        Check.told(x, 1, "tear 1;", 1);
        kept(x, "the law of days");
        Check.told(x, 2, "scene 1;", 1);
        kept(x, "scenes");
        Check.faulty(x, 2, "scene", 1, 5);
        kept(x, "a fault");
        x.wish(0, 1, 1, 1);
        kept(x, "a wish");
        x.wish(-1, 0, 0, 0);
        kept(x, "no wishes");
        x.image(true);
        kept(x, "the taking of the image");
        x.thing(9, 0);
        x.rack(0);
        x.measure(false, 1, 0, 3);
        x.set(0, 0, 10);
        x.set(9, 0, 0);
        x.put(0, 3, 0);
        x.take(0, 0);
        x.alter(1, 0);
        x.care(0, true);
        x.hire(0, 0, 0);
        x.back(0, 0);
        x.days(61);
        kept(x, "what can't be");
        x.plan(0);
        x.tour(0);
        x.swaps(0);
        x.mends(5, 0);
        x.earns(0);
        kept(x, "thought");
        Check.due("undo", x.undo(), true);
        Check.due("laws are not undone", x.look(7), 1);
        Check.due("scenes are not undone", x.look(9), 1);
    }

    private static void bookIsWrittenAnew() {
        CostumeStock x = house();
        x.put(0, 0, 0);
        x.take(0, 0);
        x.undo();
        Check.due("one line", x.look(5), 1);
        Check.due("no second line", x.book(1, 2), -1000000);
        x.care(1, false);
        Check.due("another line", x.book(1, 2), 3);
        Check.due("of another thing", x.book(1, 1), 1);
    }

    private static void image() {
        CostumeStock x = house();
        Check.due("no image", x.image(false), false);
        x.put(0, 0, 1);
        Check.due("taken", x.image(true), true);
        x.take(0, 1);
        x.care(0, false);
        Check.due("gone back", x.image(false), true);
        Check.due("in the slot", x.slot(0, 1), 0);
        Check.due("lines", x.look(5), 1);
        Check.due("nothing to undo", x.undo(), false);
        x.hire(0, 5, 5);
        Check.due("gone back again", x.image(false), true);
        Check.due("in the slot again", x.slot(0, 1), 0);
        Check.due("purse", x.look(4), 0);
        x.take(0, 1);
        x.image(true);
        x.put(0, 0, 0);
        x.image(false);
        Check.due("the later image", x.of(0, 5), -1);
        // neither the tape nor the fault is of the image
        Check.faulty(x, 0, "cost", 1, 4);
        Check.feed(x, "mend 3;");
        x.image(false);
        Check.due("the fault stays", x.fault(0), 1);
        Check.due("its place stays", x.fault(1), 4);
        Check.due("the tape stays", x.text(0), 1);
    }

    private static void imageAndUndo() {
        CostumeStock x = house();
        x.put(0, 0, 0);
        x.put(1, 0, 1);
        x.image(true);
        x.undo();
        x.undo();
        x.care(1, false);
        x.care(1, false);
        x.image(false);
        Check.due("the book as it was", x.book(0, 2), 0);
        Check.due("the book as it was", x.book(1, 1), 1);
        Check.due("in the slot", x.slot(0, 1), 1);
        x.take(0, 1);
        Check.due("one to undo", x.look(11), 1);
        x.undo();
        Check.due("in the slot yet", x.slot(0, 1), 1);
    }

    private static void imageOfAll() {
        CostumeStock x = house();
        Check.tell(x, 0, "cost 7;");
        Check.tell(x, 1, "dirt 2;");
        Check.tell(x, 2, "scene 5 wear 0 dress;");
        x.wish(0, 1, 1, 11);
        x.state(99);
        x.set(4, 0, 1000);
        x.hire(0, 3, 10);
        x.days(2);
        x.image(true);
        Check.tell(x, 0, "");
        Check.tell(x, 1, "dirt 1;tear 5;");
        Check.tell(x, 2, "scene 1 wear 0 mask;scene 2;");
        x.wish(-1, 0, 0, 0);
        x.wish(1, 1, 1, 500);
        x.back(0, 9);
        x.days(1);
        x.thing(3, 9);
        x.set(1, 2, 9);
        x.measure(false, 2, 4, 9);
        x.put(2, 0, 1);
        x.actor();
        x.measure(true, 1, 0, 77);
        x.measure(true, 0, 0, 77);
        x.rack(7);
        x.set(3, 0, 19);
        x.state(1);
        x.image(false);
        int[] due = {2, 1, 1, 2, 1010, 1, 99, 1, 1, 1, 1, 0, 0, 1};
        for (int what = 0; what < due.length; what++) {
            Check.due("look(" + what + ")", x.look(what), due[what]);
        }
        Check.due("minutes", x.look(30), 5);
        Check.due("its kind", x.wear(0, 2), 0);
        Check.due("the law", x.cost(0, 0), 7);
        Check.due("the wish", x.earns(0), 11);
        Check.due("the due", x.of(0, 7), 3);
        Check.due("the lets", x.of(0, 1), 5);
        Check.due("the dirt", x.of(0, 2), 4);
        Check.due("the worn", x.of(0, 4), 2);
        Check.due("the body", x.body(0, 0), 53);
        x.days(1);
        Check.due("the law of days", x.of(0, 2), 6);
        Check.due("the deposit", x.back(0, 0), 10);
        Check.due("a new thing", x.thing(0, 1), 2);
        Check.due("is whole", x.of(2, 3), 0);
        Check.due("is aside", x.of(2, 5), -1);
        Check.due("has no measures", x.at(2, 4, 0), 0);
        Check.due("a new actor", x.actor(), 1);
        Check.due("has no measures", x.body(1, 0), 0);
    }
}
