/** Promises 10 to 14 and 23: altering, care, hires, days and the book. */
public final class ActsTest {
    public static void main(String[] args) {
        alter();
        alterBack();
        care();
        hire();
        back();
        days();
        tearing();
        mostDays();
        book();
        Check.finish();
    }

    private static CostumeStock house() {
        CostumeStock x = new CostumeStock();
        x.rack(4);
        x.thing(0, 5);
        x.thing(5, 0);
        x.thing(3, 2);
        x.actor();
        x.actor();
        x.measure(false, 0, 0, 50);
        x.measure(false, 0, 1, 40);
        x.measure(false, 0, 2, 30);
        x.measure(true, 0, 0, 55);
        x.measure(true, 0, 1, 40);
        x.measure(true, 0, 4, 9);
        x.measure(true, 1, 0, 56);
        return x;
    }

    private static void alter() {
        CostumeStock x = house();
        Check.told(x, 0, "cost by*3+out;", 1);
        Check.due("open", x.fits(0, 0), 2);
        Check.due("alter an open one", x.alter(0, 0), 16);
        Check.due("purse", x.look(4), -16);
        Check.due("now 0", x.at(0, 0, 1), 55);
        Check.due("now 1", x.at(0, 1, 1), 40);
        Check.due("now 2", x.at(0, 2, 1), 30);
        Check.due("now 4", x.at(0, 4, 1), 0);
        Check.due("made 0", x.at(0, 0, 0), 50);
        Check.due("alter again costs nothing", x.alter(0, 0), 0);
        Check.due("but is an act", x.look(5), 2);
        Check.due("too far from made", x.alter(0, 1), -1);
        Check.due("a trunk", x.alter(1, 0), -1);
        Check.due("no thing", x.alter(3, 0), -1);
        Check.due("thing -1", x.alter(-1, 0), -1);
        Check.due("no actor", x.alter(0, 2), -1);
        Check.due("actor -2", x.alter(0, -2), -1);
        Check.due("nothing was done", x.look(5), 2);
        x.hire(0, 1, 0);
        Check.due("out", x.alter(0, 0), -1);
        Check.due("out, back to made", x.alter(0, -1), -1);
    }

    private static void alterBack() {
        CostumeStock x = house();
        x.alter(0, 0);
        Check.told(x, 0, "cost by*2+out*100+measure;", 1);
        Check.due("back", x.alter(0, -1), 10);
        Check.due("now", x.at(0, 0, 1), 50);
        Check.due("back again", x.alter(0, -1), 0);
        Check.due("of a trunk", x.alter(1, -1), -1);
        x.measure(false, 0, 0, 55);
        x.measure(true, 0, 0, 52);
        x.alter(0, 0);
        Check.due("let out again", x.alter(0, -1), 106);
        // A purse is an int: it wraps.
        x.set(4, 0, Integer.MIN_VALUE);
        Check.due("alter", x.alter(0, 0), 6);
        Check.due("purse wraps", x.look(4), Integer.MAX_VALUE - 5);
    }

    private static void care() {
        CostumeStock x = house();
        x.put(2, 11, 0);
        x.set(0, 2, 7);
        x.set(1, 2, 2);
        Check.due("wash", x.care(2, false), true);
        Check.due("dirt", x.of(2, 2), 0);
        Check.due("wash a clean one", x.care(2, false), true);
        Check.told(x, 0, "mend 10*torn;", 1);
        Check.due("mend", x.care(2, true), true);
        Check.due("torn", x.of(2, 3), 1);
        Check.due("purse", x.look(4), -20);
        Check.due("mend", x.care(2, true), true);
        Check.due("purse", x.look(4), -30);
        Check.due("mend a whole one", x.care(2, true), false);
        x.set(1, 1, 1);
        Check.due("mend a trunk", x.care(1, true), true);
        x.set(1, 2, 3);
        x.hire(1, 1, 0);
        Check.due("mend what is in one out", x.care(2, true), false);
        Check.due("wash what is in one out", x.care(2, false), false);
        Check.due("wash what is out", x.care(1, false), false);
        Check.due("care of no thing", x.care(3, false), false);
        Check.due("care of thing -1", x.care(-1, true), false);
    }

    private static void hire() {
        CostumeStock x = house();
        x.put(0, 0, 3);
        x.put(2, 11, 1);
        Check.due("0 days", x.hire(0, 0, 1), -1);
        Check.due("100 days", x.hire(0, 100, 1), -1);
        Check.due("deposit -1", x.hire(0, 1, -1), -1);
        Check.due("deposit 10000", x.hire(0, 1, 10000), -1);
        Check.due("no thing", x.hire(3, 1, 1), -1);
        Check.due("thing -1", x.hire(-1, 1, 1), -1);
        x.days(3);
        Check.due("hire", x.hire(0, 99, 9999), 102);
        Check.due("purse", x.look(4), 9999);
        Check.due("due", x.of(0, 7), 102);
        Check.due("holder", x.of(0, 5), 100);
        Check.due("its slot is empty", x.slot(0, 3), -1);
        Check.due("twice", x.hire(0, 1, 1), -1);
        Check.due("from a trunk", x.hire(2, 1, 0), 4);
        Check.due("the trunk's slot is empty", x.slot(11, 1), -1);
        Check.due("the trunk is not out", x.of(1, 8), 0);
        Check.due("not late", x.look(12), 0);
        x.days(1);
        Check.due("not late on its day", x.look(12), 0);
        x.days(1);
        Check.due("late", x.look(12), 4);
        Check.due("back", x.back(2, 0), 0);
        Check.due("no longer late", x.look(12), 0);
    }

    private static void back() {
        CostumeStock x = house();
        x.put(2, 11, 0);
        x.hire(1, 2, 100);
        Check.due("not hired itself", x.back(2, 0), -1);
        Check.due("not hired", x.back(0, 0), -1);
        Check.due("damage 10", x.back(1, 10), -1);
        Check.due("damage -1", x.back(1, -1), -1);
        Check.due("no thing", x.back(3, 0), -1);
        Check.due("thing -1", x.back(-1, 0), -1);
        x.days(5);
        Check.due("3 days behind, damage 2", x.back(1, 2), 65);
        Check.due("purse", x.look(4), 35);
        Check.due("torn", x.of(1, 3), 2);
        Check.due("aside", x.of(1, 5), -1);
        Check.due("no due", x.of(1, 7), -1);
        Check.due("back twice", x.back(1, 0), -1);
        x.hire(1, 9, 50);
        Check.due("all of it stays", x.back(1, 9), 0);
        Check.due("purse", x.look(4), 85);
        Check.due("torn 9 at most", x.of(1, 3), 9);
        x.hire(1, 9, 30);
        Check.due("ahead of due", x.back(1, 0), 30);
        x.hire(1, 1, 95);
        x.days(20);
        Check.due("19 days behind", x.back(1, 0), 0);
        Check.due("purse", x.look(4), 180);
    }

    private static void days() {
        CostumeStock x = house();
        x.put(2, 11, 0);
        x.hire(1, 9, 0);
        Check.told(x, 1, "dirt 1+worn when kind=3;dirt 3;", 2);
        Check.due("days(0)", x.days(0), -1);
        Check.due("days(61)", x.days(61), -1);
        Check.due("days(-1)", x.days(-1), -1);
        Check.due("day", x.look(3), 0);
        Check.due("days(2)", x.days(2), 0);
        Check.due("day", x.look(3), 2);
        Check.due("worn in it", x.of(2, 4), 2);
        // 1 on the first day; 2 on the second, when it is worn once
        Check.due("dirt in it", x.of(2, 2), 3);
        Check.due("worn", x.of(1, 4), 2);
        Check.due("dirt", x.of(1, 2), 6);
        Check.due("not out: worn", x.of(0, 4), 0);
        x.set(2, 1, 998);
        x.days(60);
        Check.due("worn 999 at most", x.of(1, 4), 999);
        Check.due("dirt 9 at most", x.of(1, 2), 9);
        Check.due("no line of the book", x.look(5), 2);
    }

    private static void tearing() {
        CostumeStock x = new CostumeStock();
        x.thing(0, 0);
        x.thing(5, 0);
        x.thing(1, 0);
        x.hire(2, 9, 0);
        x.hire(0, 9, 0);
        Check.told(x, 1, "tear 500;", 1);
        x.state(12345);
        int state = 12345;
        int[] torn = new int[3];
        for (int day = 0; day < 30; day++) {
            int more = 0;
            for (int thing = 0; thing < 3; thing += 2) {
                state = 1664525 * state + 1013904223;
                if ((state >>> 8) % 1000 < 500 && torn[thing] < 9) {
                    torn[thing]++;
                    more++;
                }
            }
            Check.due("days(1)", x.days(1), more);
            Check.due("torn of 0", x.of(0, 3), torn[0]);
            Check.due("torn of 2", x.of(2, 3), torn[2]);
            Check.due("state", x.look(6), state);
        }
        Check.due("both torn", torn[0] + torn[2], 18);
        // tear is asked ahead of dirt and worn of that day
        CostumeStock y = new CostumeStock();
        y.thing(0, 0);
        y.hire(0, 9, 0);
        Check.told(y, 1, "tear 1000 when dirt>0 or worn>0;dirt 1;", 2);
        Check.due("first day", y.days(1), 0);
        Check.due("no draw", y.look(6), 0);
        Check.due("more days", y.days(12), 9);
        int draws = 0;
        for (int i = 0; i < 12; i++) {
            draws = 1664525 * draws + 1013904223;
        }
        Check.due("a draw each day", y.look(6), draws);
        // a draw equal to tear does not tear
        int first = (1013904223 >>> 8) % 1000;
        CostumeStock z = new CostumeStock();
        z.thing(0, 0);
        z.hire(0, 9, 0);
        Check.told(z, 1, "tear " + first + ";", 1);
        Check.due("a draw that is not below", z.days(1), 0);
        z.state(0);
        Check.told(z, 1, "tear " + (first + 1) + ";", 1);
        Check.due("a draw that is below", z.days(1), 1);
    }

    private static void mostDays() {
        CostumeStock x = new CostumeStock();
        for (int i = 0; i < 166; i++) {
            x.days(60);
        }
        Check.due("day", x.look(3), 9960);
        Check.due("days(40)", x.days(40), -1);
        Check.due("day", x.look(3), 9960);
        Check.due("days(39)", x.days(39), 0);
        Check.due("day", x.look(3), 9999);
        Check.due("days(1)", x.days(1), -1);
        x.thing(0, 0);
        Check.due("hire beyond", x.hire(0, 99, 0), 10098);
    }

    private static void book() {
        CostumeStock x = house();
        x.put(0, 0, 0);
        x.take(0, 0);
        x.alter(0, 0);
        x.care(0, false);
        x.set(1, 0, 1);
        x.care(0, true);
        x.days(2);
        x.hire(0, 1, 40);
        x.days(2);
        x.back(0, 1);
        int[][] due = {{0, 0, 0, 0}, {0, 0, 1, 0}, {0, 0, 2, -5}, {0, 0, 3, -5}, {0, 0, 4, -10},
            {2, 0, 5, 30}, {4, 0, 6, 5}};
        Check.due("lines", x.look(5), due.length);
        for (int i = 0; i < due.length; i++) {
            for (int what = 0; what < 4; what++) {
                Check.due("book(" + i + ", " + what + ")", x.book(i, what), due[i][what]);
            }
        }
        Check.due("book(7, 0)", x.book(7, 0), -1000000);
        Check.due("book(-1, 0)", x.book(-1, 0), -1000000);
        Check.due("book(0, 4)", x.book(0, 4), -1000000);
        Check.due("book(0, -1)", x.book(0, -1), -1000000);
        for (int i = 7; i < 130; i++) {
            x.care(0, false);
        }
        Check.due("120 lines", x.look(5), 120);
        Check.due("the last one", x.book(119, 2), 3);
        Check.due("book(120, 0)", x.book(120, 0), -1000000);
        x.set(0, 0, 9);
        Check.due("an act with a full book", x.care(0, false), true);
        Check.due("it is done", x.of(0, 2), 0);
        Check.due("undone", x.undo(), true);
        Check.due("it is as it was", x.of(0, 2), 9);
        Check.due("120 lines yet", x.look(5), 120);
    }
}
