/** Promises 15 to 18 and 27: the tape, the texts and their faults, and what a law tells. */
public final class TextsTest {
    public static void main(String[] args) {
        tape();
        textsThatStay();
        tokens();
        lawFaults();
        openOnes();
        manyLines();
        sceneFaults();
        wears();
        arithmetic();
        conditions();
        facts();
        heldTo();
        Check.finish();
    }

    private static void tape() {
        CostumeStock x = new CostumeStock();
        for (int i = 1; i <= 20; i++) {
            Check.due("feed", x.feed(0x20202020, 0x20202020, 0x20202020, 0x20202020, 0x20202020), 20 * i);
        }
        Check.due("feed the 401st", x.feed(0, 0, 0, 0, 0), -1);
        Check.due("end(401)", x.end(401), false);
        Check.due("end(-1)", x.end(-1), false);
        Check.due("end(400)", x.end(400), true);
        Check.due("end(381)", x.end(381), true);
        Check.due("feed beyond 400", x.feed(0, 0, 0, 0, 0), -1);
        Check.due("end(382)", x.end(382), false);
        Check.due("end(380)", x.end(380), true);
        Check.due("feed to 400", x.feed(0x20202020, 0x20202020, 0x20202020, 0x20202020, 0x20202020), 400);
        Check.due("text of blanks", x.text(0), 0);
        Check.due("the tape is empty", x.end(1), false);
        Check.due("end(0)", x.end(0), true);
        Check.due("feed anew", x.feed(0, 0, 0, 0, 0), 20);
        Check.due("text(3)", x.text(3), -1);
        Check.due("no fault of it", x.fault(0), 0);
        Check.due("no place of it", x.fault(1), -1);
        Check.due("the tape is empty then, too", x.end(1), false);
        x.feed('a', 'a', 'a', 'a', 'a');
        Check.due("text(0) of zeros", x.text(0), -1);
        Check.due("fault", x.fault(0), 1);
        Check.due("place", x.fault(1), 0);
        Check.due("fault(2)", x.fault(2), -1);
        Check.due("fault(-1)", x.fault(-1), -1);
        Check.due("the tape is empty behind a fault", x.end(1), false);
        Check.due("text(-1)", x.text(-1), -1);
        Check.due("fault forgotten", x.fault(0), 0);
        Check.due("place forgotten", x.fault(1), -1);
    }

    private static void textsThatStay() {
        CostumeStock x = new CostumeStock();
        x.actor();
        Check.told(x, 0, "cost 1;mend 2;", 2);
        Check.told(x, 1, "tear 1;dirt 2;change 3;", 3);
        Check.told(x, 2, "scene 1 wear 0 mask;scene 2;", 2);
        Check.faulty(x, 0, "cost 1;cost", 1, 11);
        Check.faulty(x, 1, "tear", 1, 4);
        Check.faulty(x, 2, "scene 1 wear 0 coat;scene", 1, 25);
        Check.due("lines of altering", x.look(7), 2);
        Check.due("lines of days", x.look(8), 3);
        Check.due("scenes", x.look(9), 2);
        Check.due("wears", x.look(10), 1);
        Check.due("its kind", x.wear(0, 2), 3);
        Check.told(x, 0, "", 0);
        Check.told(x, 1, "\n \n", 0);
        Check.told(x, 2, "", 0);
        for (int what = 7; what <= 10; what++) {
            Check.due("look(" + what + ")", x.look(what), 0);
        }
    }

    private static void tokens() {
        CostumeStock x = new CostumeStock();
        x.actor();
        Check.told(x, 0, "cost1;mend2when by<3and not(lets=4);", 2);
        Check.told(x, 0, "\ncost\n 9999 \n;\n", 1);
        Check.told(x, 2, "scene99wear0set;", 1);
        Check.faulty(x, 0, "Cost 1;", 1, 0);
        Check.faulty(x, 0, "costs 1;", 1, 0);
        Check.faulty(x, 0, "cos 1;", 1, 0);
        for (String letter : new String[] {"a", "z", "A", "Z"}) {
            Check.faulty(x, 0, "cost" + letter + " 1;", 1, 0);
            Check.faulty(x, 0, "cost 1" + letter + ";", 1, 6);
        }
        for (String sign : new String[] {"@", "[", "`", "{", ":", ",", "!", "_"}) {
            Check.faulty(x, 0, "cost" + sign + " 1;", 1, 4);
        }
        Check.faulty(x, 0, ";".repeat(400), 1, 0);
        Check.faulty(x, 2, "scene 1;" + ";".repeat(392), 1, 8);
        Check.faulty(x, 0, "cost by by;", 1, 8);
        Check.faulty(x, 0, "cost byby;", 1, 5);
        Check.faulty(x, 0, "cost 00000;", 1, 5);
        Check.faulty(x, 0, "cost 1 2;", 1, 7);
        Check.faulty(x, 0, "cost\t1;", 1, 4);
        Check.faulty(x, 0, "cost 1.", 1, 6);
        Check.faulty(x, 0, "cost 1;" + (char) 233, 1, 7);
        Check.faulty(x, 0, "cost 1" + (char) 0, 1, 6);
        Check.faulty(x, 0, "cost -1;", 1, 5);
        Check.faulty(x, 0, "cost (1);", 1, 5);
        Check.faulty(x, 0, "cost wear;", 1, 5);
        Check.faulty(x, 1, "tear dress;", 1, 5);
        Check.faulty(x, 2, "scene by;", 1, 6);
        Check.faulty(x, 0, "cost 1  ", 1, 8);
    }

    private static void lawFaults() {
        CostumeStock x = new CostumeStock();
        Check.faulty(x, 0, "dirt 1;", 1, 0);
        Check.faulty(x, 0, "change 1;", 1, 0);
        Check.faulty(x, 1, "mend 1;", 1, 0);
        Check.told(x, 1, "dirt dirt when dirt=dirt;", 1);
        Check.told(x, 0, "cost dirt;", 1);
        Check.faulty(x, 0, ";", 1, 0);
        Check.faulty(x, 0, "cost 1 + ;", 1, 9);
        Check.faulty(x, 0, "cost 1 * * 2;", 1, 9);
        Check.faulty(x, 0, "cost 1 / by;", 1, 9);
        Check.faulty(x, 0, "cost 1 / 0000;", 2, 9);
        Check.faulty(x, 0, "cost 1 / ;", 1, 9);
        Check.faulty(x, 0, "cost 1/00000;", 1, 7);
        Check.told(x, 0, "cost 0/1;", 1);
        Check.faulty(x, 0, "cost 1 when;", 1, 11);
        Check.faulty(x, 0, "cost 1 when 1;", 1, 13);
        Check.faulty(x, 0, "cost 1 when 1=;", 1, 14);
        Check.faulty(x, 0, "cost 1 when 1=2=3;", 1, 15);
        Check.faulty(x, 0, "cost 1 when 1=2 or;", 1, 18);
        Check.faulty(x, 0, "cost 1 when 1=2 not 1=2;", 1, 16);
        Check.faulty(x, 0, "cost 1 when (1=2;", 1, 16);
        Check.faulty(x, 0, "cost 1 when (1)=2;", 1, 14);
        Check.faulty(x, 0, "cost 1 when 1=2);", 1, 15);
        Check.faulty(x, 0, "cost 1 when 1=(2);", 1, 14);
        Check.faulty(x, 0, "cost 1 when 1/0=x;", 2, 14);
        Check.faulty(x, 0, "cost 1 when 1=1 when 1=1;", 1, 16);
        Check.faulty(x, 0, "cost 1 cost 1;", 1, 7);
        Check.faulty(x, 0, "cost 1/0;;", 2, 7);
        Check.faulty(x, 0, "cost 1;;cost 1/0;", 1, 7);
    }

    private static void openOnes() {
        CostumeStock x = new CostumeStock();
        Check.told(x, 0, "cost 1 when ((((((((1=1))))))));", 1);
        Check.faulty(x, 0, "cost 1 when (((((((((1=1)))))))));", 3, 20);
        Check.told(x, 0, "cost 1 when not(not(not(not(1=1))));", 1);
        Check.faulty(x, 0, "cost 1 when not(not(not(not(not 1=1))));", 3, 28);
        Check.faulty(x, 0, "cost 1 when not(not(not(not((1=1)))));", 3, 28);
        Check.told(x, 0, "cost 1 when ((((((((1=1))))))) and not not not not not not not 1=1);", 1);
        Check.told(x, 0, "cost 1 when not not not not not not not not 1=1 and ((((((((1=1))))))));", 1);
        Check.faulty(x, 0, "cost 1 when ((((((((1=1 or (1=1)))))))));", 3, 27);
        Check.faulty(x, 0, "cost 1 when ((((((((1=1)))))))) ( ;", 1, 32);
    }

    private static void manyLines() {
        CostumeStock x = new CostumeStock();
        Check.told(x, 0, "cost 1;".repeat(16), 16);
        Check.faulty(x, 0, "cost 1;".repeat(16) + "mend", 3, 112);
        Check.faulty(x, 0, "cost 1;".repeat(16) + "tear", 1, 112);
        Check.told(x, 1, "dirt 1;tear 1;".repeat(8), 16);
        Check.faulty(x, 1, "dirt 1;tear 1;".repeat(8) + " change 1/0;", 3, 113);
        Check.due("it stayed", x.look(8), 16);
        String longest = "cost 1" + "+1".repeat(196) + ";";
        Check.told(x, 0, longest, 1);
        Check.due("length", longest.length(), 399);
    }

    private static void sceneFaults() {
        CostumeStock x = new CostumeStock();
        x.actor();
        x.actor();
        Check.faulty(x, 2, "scene 1 wear 2 coat;", 2, 13);
        Check.faulty(x, 2, "scene 1 wear 9999 coat;", 2, 13);
        Check.faulty(x, 2, "scene 1 wear 99999 coat;", 1, 13);
        Check.faulty(x, 2, "scene 100;", 2, 6);
        Check.faulty(x, 2, "scene ;", 1, 6);
        Check.faulty(x, 2, "scene 1 coat;", 1, 8);
        Check.faulty(x, 2, "scene 1 wear coat;", 1, 13);
        Check.faulty(x, 2, "scene 1 wear 0 1;", 1, 15);
        Check.faulty(x, 2, "scene 1 wear 0 trunk;", 1, 15);
        Check.faulty(x, 2, "scene 1 scene 1;", 1, 8);
        Check.faulty(x, 2, "scene 1; wear 0 coat;", 1, 9);
        Check.faulty(x, 2, "scene 1 wear 1 coat wear 0 coat wear 1 coat;", 3, 37);
        Check.told(x, 2, "scene 1;".repeat(6), 6);
        Check.faulty(x, 2, "scene 1;".repeat(6) + "scene", 3, 48);
        Check.faulty(x, 2, "scene 1;".repeat(6) + ";", 1, 48);
        String six = "scene 1 wear 0 coat wear 1 set;".repeat(3);
        Check.told(x, 2, six, 3);
        Check.faulty(x, 2, six + "scene 1 wear", 3, 101);
        Check.faulty(x, 2, six.substring(0, 92) + " wear 0 coat;", 3, 93);
        Check.faulty(x, 2, six + "scene 1 weary", 1, 101);
        Check.due("the scenes stayed", x.look(9), 3);
        Check.due("the wears stayed", x.look(10), 6);
    }

    private static void wears() {
        CostumeStock x = new CostumeStock();
        x.actor();
        x.actor();
        Check.told(x, 2, "scene 0 wear 1 dress wear 0 uniform;scene 5;scene 9 wear 0 set;", 3);
        int[][] due = {{0, 1, 0}, {0, 0, 2}, {2, 0, 4}};
        for (int i = 0; i < 3; i++) {
            for (int what = 0; what < 3; what++) {
                Check.due("wear(" + i + ", " + what + ")", x.wear(i, what), due[i][what]);
            }
        }
        Check.due("wear(3, 0)", x.wear(3, 0), -1);
        Check.due("wear(-1, 0)", x.wear(-1, 0), -1);
        Check.due("wear(0, 3)", x.wear(0, 3), -1);
        Check.due("wear(0, -1)", x.wear(0, -1), -1);
        int[] minutes = {0, 5, 9};
        for (int i = 0; i < 3; i++) {
            Check.due("minutes", x.look(30 + i), minutes[i]);
        }
    }

    /** What a cost E tells for a thing of measure 50 and an actor of measure 57. */
    private static void cost(String e, int due) {
        CostumeStock x = dressed();
        Check.told(x, 0, "cost " + e + ";", 1);
        Check.due("cost of " + e, x.cost(0, 0), due);
    }

    private static CostumeStock dressed() {
        CostumeStock x = new CostumeStock();
        x.thing(2, 9);
        x.actor();
        x.measure(false, 0, 3, 50);
        x.measure(true, 0, 3, 57);
        x.set(0, 0, 4);
        x.set(1, 0, 2);
        x.set(2, 0, 321);
        return x;
    }

    private static void arithmetic() {
        cost("1+2*3", 7);
        cost("2*3+1", 7);
        cost("9-2-3", 4);
        cost("9-2*3-1", 2);
        cost("7*3/2", 10);
        cost("7/2*3", 9);
        cost("100/7/2", 7);
        cost("10-7/2+1", 8);
        cost("100+0*1-7", 93);
        cost("0-7", 0);
        // Java's own ints wrap in the same way.
        cost("9999*9999*9999", clamp(9999 * 9999 * 9999));
        cost("9999*9999*9999/9999+500", clamp(9999 * 9999 * 9999 / 9999 + 500));
        cost("9999*9999*99*5/7777", clamp(9999 * 9999 * 99 * 5 / 7777));
        cost("8000*8000*40/9999/99/3+3000", clamp(8000 * 8000 * 40 / 9999 / 99 / 3 + 3000));
    }

    private static int clamp(int v) {
        return Math.max(0, Math.min(9999, v));
    }

    /** Whether B holds for the thing and the actor as above. */
    private static void when(String b, boolean due) {
        CostumeStock x = dressed();
        Check.told(x, 0, "cost 1 when " + b + ";cost 2;", 2);
        Check.due("when " + b, x.cost(0, 0), due ? 1 : 2);
    }

    private static void conditions() {
        when("1<2", true);
        when("2<2", false);
        when("2>2", false);
        when("3>2", true);
        when("2=2", true);
        when("1=2", false);
        when("not 1=2", true);
        when("not not 1=2", false);
        when("1=2 or 1=1 and 1=2", false);
        when("1=1 or 1=1 and 1=2", true);
        when("1=2 and 1=2 or 1=1", true);
        when("1=2 and (1=2 or 1=1)", false);
        when("(1=1 or 1=2) and not (1=2)", true);
        when("not 1=2 and 1=2", false);
        when("not (1=2 and 1=2)", true);
        when("1=2 or 1=2 or 1=1", true);
        when("1=1 and 1=1 and 1=2", false);
        when("0-7/2*1=0-3", true);
        when("0-7<0-6", true);
        when("by+1=2*4", true);
        when("1=2 or 1=1 and (1=2 or 1=1 and (1=2 or 1=1 and (1=2 or 1=1 and (1=1))))", true);
        when("1=2 or 1=1 and (1=2 or 1=1 and (1=2 or 1=1 and (1=2 or 1=1 and (1=2))))", false);
        // The product wraps to -2095407274; towards 0 its part is -20, downwards it would be -21.
        when("9999*9999*22/9999/9999+20=0", true);
    }

    private static void facts() {
        cost("by", 7);
        cost("out", 1);
        cost("measure", 3);
        cost("kind", 2);
        cost("lets", 9);
        cost("torn", 2);
        cost("worn", 321);
        cost("dirt", 4);
        cost("next", 0);
        CostumeStock x = dressed();
        x.measure(true, 0, 3, 45);
        Check.told(x, 0, "cost out*100+by;", 1);
        Check.due("taken in", x.cost(0, 0), 5);
        // mend: by, out, measure, next are 0
        Check.told(x, 0, "mend by*1000+out*1000+measure*1000+next*1000+kind*100+torn*10+lets;", 1);
        x.care(0, true);
        Check.due("mend", x.look(4), -229);
    }

    private static void heldTo() {
        cost("9999+1", 9999);
        cost("0-1", 0);
        CostumeStock x = dressed();
        Check.due("cost without a law", x.cost(0, 0), 7);
        Check.told(x, 0, "cost 50 when by>7;", 1);
        Check.due("cost when no line holds", x.cost(0, 0), 7);
        Check.told(x, 0, "mend 3 when torn>5;", 1);
        x.care(0, true);
        Check.due("mend when no line holds", x.look(4), -5);
        Check.told(x, 0, "mend 9999*2;", 1);
        x.care(0, true);
        Check.due("mend held to 9999", x.look(4), -5 - 9999);
        Check.told(x, 1, "dirt 99;tear 0-5;", 2);
        x.set(0, 0, 0);
        x.hire(0, 50, 0);
        Check.due("no tear", x.days(1), 0);
        Check.due("dirt held to 9", x.of(0, 2), 9);
        Check.due("no draw", x.look(6), 0);
        x.set(0, 0, 5);
        Check.told(x, 1, "dirt 0-3;tear 9999;", 2);
        Check.due("tear", x.days(1), 1);
        Check.due("dirt not below 0", x.of(0, 2), 5);
        Check.due("one draw", x.look(6), 1013904223);
    }
}
