/** Promises 8, 9, 19, 22, 31, 32: what is where and in what at any depth. */
public final class PlacesTest {
    public static void main(String[] args) {
        putAndTake();
        trunksInTrunks();
        outOfReach();
        pathsAndHolds();
        Check.finish();
    }

    private static void putAndTake() {
        CostumeStock x = new CostumeStock();
        x.rack(2);
        x.thing(0, 0);
        x.thing(3, 0);
        Check.due("put no thing", x.put(2, 0, 0), false);
        Check.due("put thing -1", x.put(-1, 0, 0), false);
        Check.due("put in no rack", x.put(0, 1, 0), false);
        Check.due("put in holder -1", x.put(0, -1, 0), false);
        Check.due("put in slot 2", x.put(0, 0, 2), false);
        Check.due("put in slot -1", x.put(0, 0, -1), false);
        Check.due("put in what is no trunk", x.put(0, 11, 0), false);
        Check.due("put in holder 26", x.put(0, 26, 0), false);
        Check.due("put in holder 100", x.put(0, 100, 0), false);
        Check.due("nothing in the book", x.look(5), 0);
        Check.due("put", x.put(0, 0, 1), true);
        Check.due("put again", x.put(0, 0, 0), false);
        Check.due("put into a full slot", x.put(1, 0, 1), false);
        Check.due("slot", x.slot(0, 1), 0);
        Check.due("its holder", x.of(0, 5), 0);
        Check.due("its slot", x.of(0, 6), 1);
        Check.due("book what", x.book(0, 2), 0);
        Check.due("take nothing", x.take(0, 0), -1);
        Check.due("take slot 2", x.take(0, 2), -1);
        Check.due("take slot -1", x.take(0, -1), -1);
        Check.due("take of no holder", x.take(3, 0), -1);
        Check.due("take of holder 10", x.take(10, 0), -1);
        Check.due("take", x.take(0, 1), 0);
        Check.due("aside", x.of(0, 5), -1);
        Check.due("no slot", x.of(0, 6), -1);
        Check.due("slot empty", x.slot(0, 1), -1);
        Check.due("book what", x.book(1, 2), 1);
        Check.due("put the other", x.put(1, 0, 1), true);
        Check.due("slot(0, 2)", x.slot(0, 2), -2);
        Check.due("slot(0, -1)", x.slot(0, -1), -2);
        Check.due("slot(5, 0)", x.slot(5, 0), -2);
        Check.due("slot(10, 0)", x.slot(10, 0), -2);
        Check.due("slot(-1, 0)", x.slot(-1, 0), -2);
        Check.due("slot(MAX, 0)", x.slot(Integer.MAX_VALUE, 0), -2);
        Check.due("slot(MIN, 0)", x.slot(Integer.MIN_VALUE, 0), -2);
    }

    private static void trunksInTrunks() {
        CostumeStock x = new CostumeStock();
        for (int i = 0; i < 5; i++) {
            x.thing(5, 0);
        }
        x.thing(0, 0);
        Check.due("a trunk into itself", x.put(0, 10, 0), false);
        Check.due("1 into 0", x.put(1, 10, 0), true);
        Check.due("0 into what is in it", x.put(0, 11, 0), false);
        Check.due("2 into 1", x.put(2, 11, 3), true);
        Check.due("0 into what is deep in it", x.put(0, 12, 0), false);
        Check.due("a 4th into the 3rd", x.put(3, 12, 0), false);
        Check.due("a thing into the 3rd", x.put(5, 12, 0), true);
        Check.due("deep of 0", x.of(0, 10), 3);
        Check.due("deep of 1", x.of(1, 10), 2);
        Check.due("deep of 2", x.of(2, 10), 1);
        Check.due("in 0", x.of(0, 9), 3);
        Check.due("in 1", x.of(1, 9), 2);
        Check.due("in 2", x.of(2, 9), 1);
        Check.due("in 5", x.of(5, 9), 0);
        Check.due("3 into 4", x.put(3, 14, 0), true);
        Check.due("two deep into the 2nd of two", x.put(4, 11, 0), false);
        Check.due("two deep into the 1st", x.put(4, 10, 1), true);
        Check.due("deep of 0 yet", x.of(0, 10), 3);
        Check.due("slot 4 of a trunk", x.slot(10, 4), -2);
        Check.due("take 1", x.take(10, 0), 1);
        Check.due("what is in it stays", x.of(2, 5), 11);
        Check.due("in 1 yet", x.of(1, 9), 2);
        Check.due("1, two deep, into 4", x.put(1, 14, 1), false);
        Check.due("take 4", x.take(10, 1), 4);
        Check.due("deep of 0 alone", x.of(0, 10), 1);
        Check.due("1 into 4 aside", x.put(1, 14, 1), true);
        Check.due("deep of 4", x.of(4, 10), 3);
    }

    private static void outOfReach() {
        CostumeStock x = new CostumeStock();
        x.rack(3);
        x.thing(5, 0);
        x.thing(5, 0);
        x.thing(0, 0);
        x.thing(1, 0);
        x.put(0, 0, 0);
        x.put(1, 10, 2);
        x.put(2, 11, 1);
        Check.due("hire the trunk", x.hire(0, 3, 10), 3);
        Check.due("the rack's slot is empty", x.slot(0, 0), -1);
        Check.due("out itself", x.of(0, 5), 100);
        Check.due("no slot", x.of(0, 6), -1);
        Check.due("out", x.of(0, 8), 1);
        Check.due("in it out", x.of(1, 8), 1);
        Check.due("deep in it out", x.of(2, 8), 1);
        Check.due("deep in it not hired", x.of(2, 7), -1);
        Check.due("another one not out", x.of(3, 8), 0);
        Check.due("put into it", x.put(3, 10, 0), false);
        Check.due("put into what is in it", x.put(3, 11, 0), false);
        Check.due("take from it", x.take(10, 2), -1);
        Check.due("take from what is in it", x.take(11, 1), -1);
        Check.due("seen in it", x.slot(11, 1), 2);
        Check.due("put what is out", x.put(0, 0, 1), false);
        Check.due("holds in it", x.holds(10, 0), 1);
        Check.due("no rack", x.path(2, 0), -1);
        Check.due("two trunks", x.path(2, 1), 2);
        Check.due("back", x.back(0, 0), 10);
        Check.due("aside", x.of(0, 5), -1);
        Check.due("in it not out", x.of(2, 8), 0);
        Check.due("take from it now", x.take(11, 1), 2);
    }

    private static void pathsAndHolds() {
        CostumeStock x = new CostumeStock();
        x.rack(1);
        x.rack(2);
        x.thing(5, 0);
        x.thing(5, 0);
        x.thing(2, 0);
        x.thing(1, 0);
        x.put(2, 11, 0);
        x.put(1, 10, 0);
        Check.due("aside: no rack", x.path(2, 0), -1);
        Check.due("aside: two trunks", x.path(2, 1), 2);
        x.put(0, 1, 1);
        x.put(3, 1, 0);
        Check.due("rack of the trunk", x.path(0, 0), 1);
        Check.due("rack at depth", x.path(2, 0), 1);
        Check.due("trunks of the outer", x.path(0, 1), 0);
        Check.due("trunks of the inner", x.path(1, 1), 1);
        Check.due("path what 2", x.path(0, 2), -2);
        Check.due("path what -1", x.path(0, -1), -2);
        Check.due("path of no thing", x.path(4, 0), -2);
        Check.due("path of thing -1", x.path(-1, 1), -2);
        Check.due("holds uniforms", x.holds(1, 2), 1);
        Check.due("holds coats: itself alone", x.holds(1, 1), 1);
        Check.due("holds dresses", x.holds(1, 0), 0);
        Check.due("holds trunks", x.holds(1, 5), 2);
        Check.due("holds in the trunk", x.holds(10, 5), 1);
        Check.due("holds in the inner", x.holds(11, 2), 1);
        Check.due("holds in the other rack", x.holds(0, 2), 0);
        Check.due("holds kind 6", x.holds(1, 6), -1);
        Check.due("holds kind -1", x.holds(1, -1), -1);
        Check.due("holds rack 2", x.holds(2, 0), -1);
        Check.due("holds of what is no trunk", x.holds(12, 0), -1);
        Check.due("holds holder -1", x.holds(-1, 0), -1);
    }
}
