/** Promises 15 to 18, sentence by sentence: the tape, the texts, their faults, and what a law tells. */
final class Promises15To18 extends Promises {
    static void all() {
        promise15();
        promise16();
        promise17();
        promise17refused();
        laws();
        conditions();
        sums();
        scenes();
        tokens();
        faultsByPlace();
        faultsOfNumbers();
        faultsOfMany();
        faultsOfOpenOnes();
        told();
        toldWithoutOne();
        facts();
        factsOfDays();
        heldTo();
        promise18();
    }

    /** Twenty blanks, but for one byte at a place. */
    private static int[] blanksBut(int place, int sign) {
        int[] n = new int[5];
        for (int i = 0; i < 20; i++) {
            n[i / 4] = n[i / 4] << 8 | (i == place ? sign : ' ');
        }
        return n;
    }

    private static int feedBlanks(CostumeStock x) {
        return x.feed(0x20202020, 0x20202020, 0x20202020, 0x20202020, 0x20202020);
    }

    private static CostumeStock tapeOf(int bytes) {
        CostumeStock x = Houses.busy();
        x.end(0);
        for (int i = 0; i < 20; i++) {
            feedBlanks(x);
        }
        x.end(bytes);
        return x;
    }

    private static void promise15() {
        sentence(15, "Twenty bytes come behind the TAPE, of each number the highest first: how many it has.", () -> {
            for (int place = 0; place < 20; place++) {
                for (int sign : new int[] {'!', 0, 128, 255}) {
                    CostumeStock x = new CostumeStock();
                    int[] n = blanksBut(place, sign);
                    due("feed", x.feed(n[0], n[1], n[2], n[3], n[4]), 20);
                    due("text", x.text(0), NONE);
                    due("fault", x.fault(0), 1);
                    due("its place", x.fault(1), place);
                }
            }
        });
        sentence(15, "come behind the TAPE,", () -> {
            CostumeStock x = new CostumeStock();
            feedBlanks(x);
            due("forty", feedBlanks(x), 40);
            x.end(33);
            int[] n = blanksBut(2, '?');
            due("behind 33", x.feed(n[0], n[1], n[2], n[3], n[4]), 53);
            x.text(1);
            due("the place of its third", x.fault(1), 35);
        });
        sentence(15, "NONE, and nothing comes, if there would be more than 400.", () -> {
            CostumeStock x = new CostumeStock();
            for (int i = 1; i <= 20; i++) {
                due("feed", feedBlanks(x), 20 * i);
            }
            due("400 and 20", feedBlanks(x), NONE);
            due("380 and 20", feedBlanks(tapeOf(380)), 400);
            int[] n = blanksBut(0, '!');
            for (int bytes : new int[] {381, 399, 400}) {
                refused(bytes + " and 20", () -> tapeOf(bytes), y -> y.feed(n[0], n[1], n[2], n[3], n[4]), NONE);
            }
        });
    }

    private static void promise16() {
        sentence(16, "its first n bytes alone", () -> {
            CostumeStock x = new CostumeStock();
            Check.feed(x, "cost 1;costs 2;");
            x.end(11);
            due("a word cut short", x.text(0), NONE);
            due("stands, and then the end", x.fault(1), 11);
            Check.feed(x, "scene 9;scene 1000;");
            x.end(17);
            due("a number cut short", x.text(2), NONE);
            due("is above 99", x.fault(0), 2);
            Check.feed(x, "scene 9;scene 1000;");
            x.end(16);
            x.text(2);
            due("stands, and then the end", x.fault(1), 16);
        });
        sentence(16, "The TAPE has its first n bytes alone: true;", () -> {
            CostumeStock x = new CostumeStock();
            Check.feed(x, "cost 1;mend 2;");
            due("all of it", x.end(14), true);
            due("its first 7", x.end(7), true);
            due("7 again", x.end(7), true);
            due("8 are gone", x.end(8), false);
            due("one line", x.text(0), 1);
            Check.feed(x, "cost 1;mend 2;");
            due("nothing", x.end(0), true);
            due("no line", x.text(0), 0);
            due("an empty one has its first 0", x.end(0), true);
        });
        sentence(16, "false, changing nothing, if it has not so many, or n is below 0.", () -> {
            due("busy has 7", Houses.busy().end(7), true);
            for (int n : new int[] {8, 400, 401, Integer.MAX_VALUE, -1, Integer.MIN_VALUE}) {
                denied("end(" + n + ")", Houses::busy, x -> x.end(n));
            }
            denied("end(401) of 400", Houses::full, x -> x.end(401));
            due("end(400) of 400", Houses.full().end(400), true);
            denied("end(1) of none", CostumeStock::new, x -> x.end(1));
        });
    }

    private static void promise17() {
        sentence(17, "The TAPE, empty then, is TEXT k: how many lines, scenes.", () -> {
            CostumeStock x = Houses.small();
            Check.told(x, 0, "cost 8;mend 2;", 2);
            due("the tape is empty", x.end(1), false);
            Check.told(x, 1, "dirt 8;", 1);
            Check.told(x, 2, "scene 1;scene 2;scene 3 wear 0 dress;", 3);
            due("lines of altering", x.look(7), 2);
            due("lines of days", x.look(8), 1);
            due("scenes", x.look(9), 3);
            due("the law of altering tells", x.cost(0, 0), 8);
            Check.told(x, 0, "cost 9;", 1);
            due("the later one alone", x.cost(0, 0), 9);
            Check.told(x, 0, "", 0);
            due("an empty one", x.cost(0, 0), 3);
            Check.told(x, 1, "", 0);
            Check.told(x, 2, "", 0);
            due("no scenes", x.look(9), 0);
            due("no wears", x.look(10), 0);
        });
        sentence(17, "The TAPE, empty then, is TEXT k:", () -> {
            CostumeStock x = Houses.small();
            for (int i = 0; i < 12; i++) {
                Check.told(x, 0, "cost " + i + "+1".repeat(190) + ";", 1);
                due("the longest, one behind the other", x.cost(0, 0), 190 + i);
            }
            Check.faulty(x, 0, ";".repeat(400), 1, 0);
            Check.faulty(x, 0, "cost 1" + "+1".repeat(197), 1, 400);
            due("it stayed", x.cost(0, 0), 201);
        });
    }

    /** The busy house as it was, but for the tape, which is empty, and the fault, which there is none. */
    private static CostumeStock withoutFault() {
        CostumeStock x = Houses.busy();
        x.end(0);
        Check.told(x, 1, Houses.DAYS, 3);
        return x;
    }

    private static void promise17refused() {
        sentence(17, "NONE: no such one (fault() tells 0),", () -> {
            for (int k : new int[] {-1, 3, Integer.MIN_VALUE, Integer.MAX_VALUE}) {
                CostumeStock x = Houses.busy();
                due("text(" + k + ")", x.text(k), NONE);
                due("the fault", x.fault(0), 0);
                due("its place", x.fault(1), NONE);
                Trace.same("text(" + k + ") leaves", x, withoutFault());
            }
        });
        sentence(17, "or a FAULT (it stays as it was).", () -> {
            String[] faulty = {"cost 1;mend", "dirt 1/0;", "scene 1 wear 2 dress;"};
            for (int k = 0; k < 3; k++) {
                CostumeStock x = Houses.busy();
                x.end(0);
                due("text", Check.tell(x, k, faulty[k]), NONE);
                due("the tape is empty", x.end(1), false);
                Check.tell(x, 1, Houses.DAYS);
                Trace.same("a fault leaves", x, withoutFault());
            }
            CostumeStock x = Houses.busy();
            x.end(0);
            int[] due = {2, 3, 2, 3};
            for (int k = 0; k < 3; k++) {
                Check.tell(x, k, ";");
            }
            for (int what = 7; what <= 10; what++) {
                due("look(" + what + ")", x.look(what), due[what - 7]);
            }
            due("cost by the law that stayed", x.cost(0, 1), 9);
        });
    }

    private static void right(int k, String... texts) {
        CostumeStock x = Houses.small();
        for (String text : texts) {
            Check.told(x, k, text, text.length() - text.replace(";", "").length());
        }
    }

    /** A text whose first sign that can't stand there is marked by a bar ahead of it. */
    private static void wrong(int k, String... texts) {
        CostumeStock x = Houses.small();
        for (String text : texts) {
            Check.faulty(x, k, text.replace("|", ""), 1, text.indexOf('|'));
        }
    }

    private static void laws() {
        sentence(17, "0 THE LAW OF ALTERING = {(cost | mend) E [when B] ;},", () -> {
            right(0, "", " ", "cost 1;", "mend 1;", "mend 1 when 1=1;cost 2;mend 3;cost 4 when by<2;");
            wrong(0, "|tear 1;", "|dirt 1;", "|change 1;", "|when 1=1;", "|1;", "|;", "cost|;", "cost 1|", "cost |",
                "cost 1 |mend 1;", "cost 1 when|;", "cost |when 1=1;", "cost 1;|;", "cost 1;|change 1;",
                "cost 1 when 1=1 |when 1=1;", "|wear 1;", "cost |cost;", "cost |mend;", "cost |tear;", "cost |change;");
        });
        sentence(17, "1 OF DAYS = {(tear | dirt | change) E [when B] ;}.", () -> {
            right(1, "", "\n", "tear 1;", "dirt 1;", "change 1;", "change 1 when 1=1;dirt dirt;tear 3 when dirt<2;");
            wrong(1, "|cost 1;", "|mend 1;", "|when 1=1;", "|next;", "dirt|;", "tear 1|", "change 1 |dirt 1;",
                "dirt 1 when|;", "tear 1;|cost 1;", "tear |tear;", "tear |change;", "tear |cost;", "|scene 1;");
        });
    }

    /** Whether B holds, of a dress of measure 50 and an actor of 53. */
    private static void when(String b, boolean due) {
        CostumeStock x = Houses.small();
        Check.told(x, 0, "cost 1 when " + b + ";cost 2;", 2);
        due("when " + b, x.cost(0, 0), due ? 1 : 2);
    }

    private static void conditions() {
        sentence(17, "B = A {or A}.", () -> {
            when("1=1", true);
            when("1=2", false);
            when("1=2 or 1=2", false);
            when("1=1 or 1=2", true);
            when("1=2 or 1=1", true);
            when("1=2 or 1=2 or 1=1", true);
            when("1=2 or 1=2 or 1=2", false);
            wrong(0, "cost 1 when |or 1=1;", "cost 1 when 1=1 or|;", "cost 1 when 1=1 or |or 1=1;", "cost 1 |or 1;");
        });
        sentence(17, "A = C {and C}.", () -> {
            when("1=1 and 1=1", true);
            when("1=1 and 1=2", false);
            when("1=2 and 1=1", false);
            when("1=1 and 1=1 and 1=2", false);
            when("1=1 and 1=1 and 1=1", true);
            when("1=1 or 1=1 and 1=2", true);
            when("1=2 and 1=1 or 1=1", true);
            when("1=2 or 1=1 and 1=2", false);
            when("1=2 and 1=2 or 1=2 and 1=2 or 1=1 and 1=1", true);
            wrong(0, "cost 1 when |and 1=1;", "cost 1 when 1=1 and|;", "cost 1 when 1=1 and |or 1=1;", "cost 1 |and 1;");
        });
        sentence(17, "C = E (< | = | >) E | not C | ( B ).", () -> {
            when("1<2", true);
            when("2<2", false);
            when("3<2", false);
            when("1=2", false);
            when("2=2", true);
            when("3=2", false);
            when("1>2", false);
            when("2>2", false);
            when("3>2", true);
            when("1<2 and 2>1 and 1=1 and not 1=2", true);
            when("not 1=2 and 1=1", true);
            when("1=1 and 2>1", true);
            when("1=1 and 1<2", true);
            when("1+1=4/2", true);
            when("0-1<0", true);
            when("not 1=1", false);
            when("not 1=2", true);
            when("not not 1=1", true);
            when("not 1=2 and 1=2", false);
            when("not (1=2 and 1=2)", true);
            when("not 1=1 or 1=1", true);
            when("(1=1)", true);
            when("((1=2))", false);
            when("1=2 and (1=2 or 1=1)", false);
            when("(1=1 or 1=2) and (1=2 or 1=1)", true);
        });
        sentence(17, "C = E (< | = | >) E | not C | ( B ).", () ->
            wrong(0, "cost 1 when 1|;", "cost 1 when 1 |and 1=1;", "cost 1 when 1=|;", "cost 1 when |=1;",
                "cost 1 when 1=1|=1;", "cost 1 when 1<|=1;", "cost 1 when not|;", "cost 1 when 1=1 |not 1=1;",
                "cost 1 when not |and 1=1;", "cost 1 when (|);", "cost 1 when (1=1|;", "cost 1 when 1=1|);",
                "cost 1 when (1|)=1;", "cost 1 when 1=|(1);", "cost 1 when 1=|not 1;", "cost 1 |not 1;",
                "cost 1 when (1=1) |(1=1);", "cost 1 when (1=1)|=1;"));
    }

    /** What cost E tells, of a dress of measure 50 and an actor of 53. */
    private static void cost(String e, int due) {
        CostumeStock x = Houses.small();
        Check.told(x, 0, "cost " + e + ";", 1);
        due("cost " + e, x.cost(0, 0), due);
    }

    private static void sums() {
        sentence(17, "E = T {(+ | -) T}.", () -> {
            cost("0", 0);
            cost("1+2", 3);
            cost("9-2", 7);
            cost("9-2-3", 4);
            cost("9-2+3", 10);
            cost("1+2*3", 7);
            cost("2*3+1", 7);
            cost("20-2*3-4/2", 12);
            wrong(0, "cost |+1;", "cost |-1;", "cost 1+|;", "cost 1-|;", "cost 1+|+1;", "cost 1-|-1;", "cost 1 |1;",
                "cost |(1);", "cost 1+|(1);", "cost 1|=1;", "cost 1|<1;", "cost 1|);");
        });
        sentence(17, "T = U {* U | / NUMBER}.", () -> {
            cost("2*3", 6);
            cost("2*3*4", 24);
            cost("7/2", 3);
            cost("7*3/2", 10);
            cost("7/2*3", 9);
            cost("100/7/2", 7);
            cost("5/9999", 0);
            cost("7/1", 7);
            cost("by*by", 9);
            wrong(0, "cost |*1;", "cost 1*|;", "cost 1*|*1;", "cost |/1;", "cost 1/|;", "cost 1/|by;", "cost 1/|/1;",
                "cost 1/|(1);", "cost 1*|/1;", "cost 6/|kind;");
        });
        sentence(17, "U = NUMBER | by | out | measure | kind | lets | torn | worn | dirt | next.", () -> {
            String[] units = {"0", "9999", "by", "out", "measure", "kind", "lets", "torn", "worn", "dirt", "next"};
            for (String unit : units) {
                right(0, "cost " + unit + ";", "mend " + unit + " when " + unit + "=" + unit + "*" + unit + ";");
                right(1, "tear " + unit + ";", "change " + unit + ";dirt 1-" + unit + ";");
            }
            for (String unit : new String[] {"cost", "mend", "tear", "change", "when", "or", "and", "not", "scene",
                "wear", "dress", "coat", "uniform", "mask", "set", "trunk", "x"}) {
                wrong(0, "cost |" + unit + ";", "mend 1 when 1=|" + unit + ";");
                wrong(1, "tear |" + unit + ";", "dirt 2*|" + unit + ";");
            }
        });
        sentence(17, "Ints, which wrap; / goes towards 0.", () -> {
            when("9999*9999*22<0", true);
            when("9999*9999*21>0", true);
            // 99980001 times 22 wraps to -2095407274: its part by 9999 is -209561 towards 0, -209562 downwards.
            when("9999*9999*22+9999*9999*20+9999*9581+6835=0", true);
            when("9999*9999*22/9999+9999*20+9581=0", true);
            when("9999*9999*22/9999+9999*20+9582=0", false);
            // The greatest int, and one more.
            when("9999*9999*21+9999*4790+8416>0", true);
            when("9999*9999*21+9999*4790+8417<0", true);
            when("0-7/2=0-3", true);
            when("7/2=3", true);
        });
    }

    private static void scenes() {
        sentence(17, "2 SCENES = {scene MINUTES {wear ACTOR KIND} ;}", () -> {
            right(2, "", "scene 1;", "scene 1 wear 0 dress;", "scene 1;scene 2 wear 0 set;scene 3;");
            wrong(2, "|;", "|1;", "|wear 0 dress;", "scene|;", "scene 1|", "scene 1 |scene 1;", "scene 1 |1;",
                "scene 1 wear|;", "scene 1 wear |dress;", "scene 1 wear 0|;", "scene 1 wear 0 |0;",
                "scene 1 wear 0 dress |dress;", "scene 1 wear 0 dress |0 dress;", "scene 1;|wear 0 dress;",
                "scene 1;|;", "scene |wear 0 dress;", "|cost 1;", "scene |by;", "scene 1|+1;",
                "scene |-1;", "scene 1 |when 1=1;");
        });
        sentence(17, "(MINUTES 0 .. 99 until the next one; KIND = dress | coat | uniform | mask | set;", () -> {
            CostumeStock x = Houses.small();
            Check.told(x, 2, "scene 0;scene 99;scene 0099;", 3);
            due("0 minutes", x.look(30), 0);
            due("99 minutes", x.look(31), 99);
            due("99 minutes", x.look(32), 99);
            Check.faulty(x, 2, "scene 100;", 2, 6);
            String[] kinds = {"dress", "coat", "uniform", "mask", "set"};
            for (int kind = 0; kind < 5; kind++) {
                Check.told(x, 2, "scene 1 wear 0 " + kinds[kind] + ";", 1);
                due("its kind", x.wear(0, 2), kind);
            }
            wrong(2, "scene 1 wear 0 |trunk;", "scene 1 wear 0 |kind;", "scene 1 wear 0 |wear;");
        });
        sentence(17, "6 scenes, 6 WEARS in all at most.)", () -> {
            CostumeStock x = Houses.full();
            x.end(0);
            Check.told(x, 2, "scene 1;".repeat(6), 6);
            String six = "scene 1 wear 0 set wear 1 set wear 2 set wear 3 set wear 4 set wear 5 set;";
            Check.told(x, 2, six, 1);
            due("six wears", x.look(10), 6);
            Check.told(x, 2, six + "scene 2;".repeat(5), 6);
            due("six scenes", x.look(9), 6);
            due("six wears", x.look(10), 6);
        });
    }

    private static void tokens() {
        sentence(17, "TOKENS: letters as many as stand together are KEYWORDS (those told here for that text) or none;", () -> {
            right(0, "cost by;", "cost by when by<by;", "cost1when 2>by;");
            wrong(0, "|costs 1;", "|cos 1;", "|costby;", "cost |byby;", "cost |b;", "|Cost 1;",
                "|COST 1;", "|costX 1;", "cost 1 |whe 1=1;", "cost 1|x;", "cost |x1;", "cost 1 when |nota=1;",
                "cost |wear;", "|scene 1;");
            for (String letter : new String[] {"a", "z", "A", "Z"}) {
                wrong(0, "|cost" + letter + " 1;", "cost 1|" + letter + ";", "|" + letter + "cost 1;");
            }
            wrong(2, "scene 1 wear 0 |coats;", "|scenes 1;", "scene |by;", "scene 1 |cost;", "scene1wear0|dressx;");
        });
        sentence(17, "digits as many as stand together NUMBERS of 1 to 4 digits or none;", () -> {
            cost("7", 7);
            cost("07", 7);
            cost("0007", 7);
            cost("9999", 9999);
            cost("0000", 0);
            wrong(0, "cost |00007;", "cost |10000;", "cost |99999;", "cost 1 |2;", "cost 6/|00002;", "cost |12345678901;");
            wrong(2, "scene |00001;", "scene 1 wear |00000 dress;");
            cost("8/0002", 4);
            right(2, "scene 0001 wear 0000 dress;");
        });
        sentence(17, "; + - * / ( ) < = > .", () -> {
            right(0, "cost 1+2-3*4/5 when (1<2)or(1=2)or(1>2);");
            for (char sign = 1; sign < 256; sign++) {
                boolean known = ";+-*/()<=> \n".indexOf(sign) >= 0 || Character.isLetterOrDigit(sign) && sign < 128;
                if (!known) {
                    CostumeStock x = new CostumeStock();
                    Check.faulty(x, 0, "cost 1" + sign + ";", 1, 6);
                    Check.faulty(x, 2, "scene" + sign + "1;", 1, 5);
                }
            }
            CostumeStock x = new CostumeStock();
            Check.faulty(x, 1, "tear 1" + (char) 0 + ";", 1, 6);
        });
        sentence(17, "Blanks (32, 10) between.", () -> {
            right(0, "  cost\n1\n+\n\n2 ;  ", "cost 1 when(1=1);mend 2;", "\n\ncost 1;\n");
            wrong(0, "|c ost 1;", "cost|\t1;", "cost 1|\r;", "cost|\u000b1;", "cost|\u000c1;", "cost|" + (char) 160 + "1;");
        });
    }

    private static void faultsByPlace() {
        sentence(17, "FAULTS, the first by its place, at one place the least:", () -> {
            CostumeStock x = Houses.small();
            Check.faulty(x, 0, "cost 1/0;;", 2, 7);
            Check.faulty(x, 0, "cost 1;;cost 1/0;", 1, 7);
            Check.faulty(x, 0, "cost 1/0 when (((((((((", 2, 7);
            Check.faulty(x, 0, "cost 1 when (((((((((1/0", 3, 20);
            Check.faulty(x, 2, "scene 100 wear 5 dress;", 2, 6);
            Check.faulty(x, 2, "scene 1 wear 5 hat;", 2, 13);
            Check.faulty(x, 2, "scene 1 wear 0 hat wear 5 dress;", 1, 15);
            // At one place a 17th line and what can't stand there, a 7th scene and what can't stand there.
            Check.faulty(x, 0, "cost 1;".repeat(16) + "dirt 1;", 1, 112);
            Check.faulty(x, 2, "scene 1;".repeat(6) + "wear 0 set;", 1, 48);
            Check.faulty(x, 2, "scene 1;".repeat(6) + "scenes", 1, 48);
        });
        sentence(17, "1 what can't stand there (the end: the text's length).", () -> {
            wrong(0, "cost|", "cost |", "cost 1|", "cost 1\n  |", "cost 1+|", "cost 1*|", "cost 1/|", "cost 1 when|",
                "cost 1 when 1|", "cost 1 when 1=|", "cost 1 when 1=1|", "cost 1 when not|", "cost 1 when (|",
                "cost 1 when (1=1|", "cost 1 when 1=1 and|", "cost 1 when 1=1 or|", "cost 1;mend|");
            wrong(2, "scene|", "scene 1|", "scene 1 wear|", "scene 1 wear 0|", "scene 1 wear 0 set|", "scene 1;scene|");
            CostumeStock x = new CostumeStock();
            Check.faulty(x, 0, "cost 1" + " ".repeat(394), 1, 400);
            Check.faulty(x, 0, " ".repeat(399) + "!", 1, 399);
            Check.told(x, 0, " ".repeat(393) + "cost 1;", 1);
        });
    }

    private static void faultsOfNumbers() {
        sentence(17, "2 (at the NUMBER) a part by 0;", () -> {
            CostumeStock x = Houses.small();
            for (String zero : new String[] {"0", "00", "000", "0000"}) {
                Check.faulty(x, 0, "cost by/" + zero + ";", 2, 8);
                Check.faulty(x, 1, "dirt 1*2/ " + zero + ";", 2, 10);
            }
            Check.faulty(x, 0, "cost 1 when 1/0=1;", 2, 14);
            Check.faulty(x, 0, "cost 1 when 1=1/0;", 2, 16);
            Check.faulty(x, 0, "cost 4/2/0;", 2, 9);
            Check.told(x, 0, "cost 0/1;", 1);
            Check.told(x, 0, "cost 1*0+0-0;", 1);
        });
        sentence(17, "MINUTES above 99,", () -> {
            CostumeStock x = Houses.small();
            Check.faulty(x, 2, "scene 100;", 2, 6);
            Check.faulty(x, 2, "scene 9999;", 2, 6);
            Check.faulty(x, 2, "scene 0100;", 2, 6);
            Check.faulty(x, 2, "scene 99;scene  100", 2, 16);
            Check.told(x, 2, "scene 99;", 1);
        });
        sentence(17, "an ACTOR that there is not.", () -> {
            CostumeStock x = new CostumeStock();
            Check.faulty(x, 2, "scene 1 wear 0 set;", 2, 13);
            x.actor();
            Check.told(x, 2, "scene 1 wear 0 set;", 1);
            Check.faulty(x, 2, "scene 1 wear 1 set;", 2, 13);
            CostumeStock full = Houses.full();
            full.end(0);
            Check.told(full, 2, "scene 1 wear 5 set;", 1);
            Check.faulty(full, 2, "scene 1 wear 6 set;", 2, 13);
            Check.faulty(full, 2, "scene 1 wear 9999 set;", 2, 13);
            Check.faulty(full, 2, "scene 1 wear 32 set;", 2, 13);
        });
    }

    private static void faultsOfMany() {
        sentence(17, "3 (at its KEYWORD) the 17th line of a LAW,", () -> {
            CostumeStock x = Houses.small();
            Check.told(x, 0, "cost 1;".repeat(16), 16);
            due("sixteen lines", x.look(7), 16);
            Check.faulty(x, 0, "cost 1;".repeat(17), 3, 112);
            Check.faulty(x, 0, "cost 1;".repeat(16) + "  mend", 3, 114);
            Check.told(x, 1, "dirt 1;tear 1;".repeat(8), 16);
            due("sixteen lines", x.look(8), 16);
            for (String word : new String[] {"dirt", "tear", "change"}) {
                Check.faulty(x, 1, "dirt 1;tear 1;".repeat(8) + "\n" + word + " 1;", 3, 113);
            }
            due("it stayed", x.look(8), 16);
        });
        sentence(17, "the 7th scene, the 7th WEAR,", () -> {
            CostumeStock x = Houses.full();
            x.end(0);
            Check.faulty(x, 2, "scene 1;".repeat(7), 3, 48);
            Check.faulty(x, 2, "scene 1;".repeat(6) + " scene", 3, 49);
            String six = "scene 1 wear 0 set wear 1 set wear 2 set;scene 1 wear 0 set wear 1 set wear 2 set";
            Check.told(x, 2, six + ";", 2);
            Check.faulty(x, 2, six + " wear 3 set;", 3, six.length() + 1);
            Check.faulty(x, 2, six + " wear", 3, six.length() + 1);
            Check.faulty(x, 2, six + " wear 9999", 3, six.length() + 1);
            Check.faulty(x, 2, six + ";scene 1 wear 0 set;", 3, six.length() + 9);
            String one = "scene 1 wear 0 set wear 1 set wear 2 set wear 3 set wear 4 set wear 5 set";
            Check.told(x, 2, one + ";", 1);
            Check.faulty(x, 2, one + " wear 0 set;", 3, one.length() + 1);
        });
        sentence(17, "an ACTOR twice in a scene (at the NUMBER);", () -> {
            CostumeStock x = Houses.full();
            x.end(0);
            Check.faulty(x, 2, "scene 1 wear 5 set wear 5 set;", 3, 24);
            Check.faulty(x, 2, "scene 1 wear 0 set wear 5 set wear 00 mask;", 3, 35);
            Check.told(x, 2, "scene 1 wear 5 set;scene 2 wear 5 set;", 2);
        });
    }

    private static void faultsOfOpenOnes() {
        sentence(17, "(at it) the 9th ( or not that is open.", () -> {
            CostumeStock x = Houses.small();
            Check.told(x, 0, "cost 1 when " + "(".repeat(8) + "1=1" + ")".repeat(8) + ";", 1);
            Check.faulty(x, 0, "cost 1 when " + "(".repeat(9) + "1=1" + ")".repeat(9) + ";", 3, 20);
            Check.told(x, 0, "cost 1 when " + "not ".repeat(8) + "1=1;", 1);
            Check.faulty(x, 0, "cost 1 when " + "not ".repeat(9) + "1=1;", 3, 44);
            Check.told(x, 0, "cost 1 when not(not(not(not(1=1))));", 1);
            Check.faulty(x, 0, "cost 1 when not(not(not(not(not 1=1))));", 3, 28);
            Check.faulty(x, 0, "cost 1 when not(not(not(not((1=1)))));", 3, 28);
            Check.told(x, 1, "dirt 1 when " + "(".repeat(8) + "1=1" + ")".repeat(8) + ";", 1);
            Check.faulty(x, 1, "dirt 1 when " + "(".repeat(9), 3, 20);
        });
        sentence(17, "that is open.", () -> {
            CostumeStock x = Houses.small();
            String eight = "(".repeat(8) + "1=1" + ")".repeat(8);
            Check.told(x, 0, "cost 1 when " + eight + " and " + eight + " or " + "not ".repeat(8) + "1=1;", 1);
            Check.told(x, 0, "cost 1 when " + "not ".repeat(8) + "1=1 and " + "not ".repeat(8) + "1=1;", 1);
            Check.told(x, 0, "cost 1 when (" + "not ".repeat(7) + "1=1 or " + "(".repeat(7) + "1=1" + ")".repeat(8) + ";", 1);
            Check.faulty(x, 0, "cost 1 when (" + "not ".repeat(7) + "1=1 or " + "(".repeat(8), 3, 55);
            Check.told(x, 0, ("cost 1 when " + eight + ";").repeat(3), 3);
            due("and all eight hold", x.cost(0, 0), 1);
        });
    }

    private static void told() {
        sentence(17, "What a LAW tells for one of its words: E of its first line with that word whose B is so, or that has none;",
            () -> {
                CostumeStock x = Houses.small();
                Check.told(x, 0, "mend 7;cost 1 when by=4;cost 2 when by=3;cost 3 when by=3;cost 4;", 5);
                due("the first whose B is so", x.cost(0, 0), 2);
                x.measure(true, 0, 0, 54);
                due("another one", x.cost(0, 0), 1);
                x.measure(true, 0, 0, 52);
                due("the one that has none", x.cost(0, 0), 4);
                Check.told(x, 0, "cost 4;cost 1 when by=2;", 2);
                due("the first, that has none", x.cost(0, 0), 4);
                Check.told(x, 0, "mend 7;".repeat(15) + "cost 9;", 16);
                due("the last of sixteen", x.cost(0, 0), 9);
                x.set(1, 0, 1);
                x.care(0, true);
                due("the first of sixteen", x.look(4), -7);
            });
        sentence(17, "for one of its words:", () -> {
            CostumeStock x = Houses.small();
            x.hire(0, 9, 0);
            Check.told(x, 1, "change 9;tear 0;dirt 4;tear 1000;dirt 5;", 5);
            due("tear of its own line", x.days(1), 0);
            due("dirt of its own line", x.of(0, 2), 4);
        });
    }

    private static void toldWithoutOne() {
        sentence(17, "without one cost: by, mend: 5, tear: 0, dirt: 0, change: 3.", () -> {
            String[] altering = {"", "cost 9 when 1=2;mend 9 when 1=2;"};
            String[] days = {"", "tear 1000 when 1=2;dirt 9 when 1=2;change 99 when 1=2;"};
            for (int i = 0; i < 2; i++) {
                CostumeStock x = Houses.small();
                x.thing(3, 0);
                Check.tell(x, 0, altering[i]);
                Check.tell(x, 1, days[i]);
                due("cost: by", x.cost(0, 0), 3);
                x.set(1, 0, 2);
                x.care(0, true);
                due("mend: 5", x.look(4), -5);
                Check.tell(x, 2, "scene 2 wear 0 dress;scene 0 wear 0 mask;");
                due("change: not 2", x.plan(0), NONE);
                Check.tell(x, 2, "scene 3 wear 0 dress;scene 0 wear 0 mask;");
                due("change: 3", x.plan(0), 3);
                x.hire(0, 9, 0);
                due("tear: 0", x.days(9), 0);
                due("tear: no draw", x.look(6), 0);
                due("dirt: 0", x.of(0, 2), 0);
            }
        });
    }

    private static void facts() {
        sentence(17, "by: by how much; out: 1 if it is let out, else 0; measure: 0 .. 4 (both 0 but for cost);", () -> {
            for (int measure = 0; measure <= 4; measure++) {
                CostumeStock x = new CostumeStock();
                x.thing(0, 20);
                x.actor();
                Check.tell(x, 0, "cost by*100+out*10+measure;");
                x.measure(false, 0, measure, 50);
                x.measure(true, 0, measure, 51);
                due("let out by 1", x.cost(0, 0), 110 + measure);
                x.measure(true, 0, measure, 49);
                due("taken in by 1", x.cost(0, 0), 100 + measure);
                x.measure(true, 0, measure, 70);
                due("let out by 20", x.cost(0, 0), 2010 + measure);
                x.measure(true, 0, measure, 30);
                due("taken in by 20", x.cost(0, 0), 2000 + measure);
                x.measure(true, 0, measure, 50);
                due("alike", x.cost(0, 0), 0);
            }
        });
        sentence(17, "kind, lets, torn, worn, dirt: of the THING;", () -> {
            CostumeStock x = factual();
            Check.tell(x, 0, "cost kind*1000+lets*100+torn*10+dirt+worn*0;mend worn*10+kind;");
            due("cost", x.cost(1, 0), 2623);
            x.cost(2, 0);
            x.care(1, true);
            due("mend", x.look(4), -542);
            Check.tell(x, 0, "mend lets*100+torn*10+dirt;");
            x.care(1, true);
            due("mend by what it is now", x.look(4), -542 - 613);
        });
        sentence(17, "(by: 0 but for cost.)", () -> {
            CostumeStock x = factual();
            Check.tell(x, 0, "mend 1+by*1000+out*1000+measure*1000+next*1000;");
            x.care(1, true);
            due("mend", x.look(4), -1);
            Check.tell(x, 0, "cost 1+next*1000;");
            due("next in cost", x.cost(1, 0), 1);
            Check.tell(x, 1, "dirt 1+by*9+out*9+measure*9+next*9;");
            x.hire(1, 9, 0);
            x.days(1);
            due("dirt", x.of(1, 2), 4);
        });
    }

    /** Thing 1: a uniform with lets 6, torn 2, worn 54, dirt 3, of measure 50; an actor of 51. */
    private static CostumeStock factual() {
        CostumeStock x = new CostumeStock();
        x.thing(0, 0);
        x.thing(2, 6);
        x.thing(3, 1);
        x.actor();
        x.measure(false, 1, 4, 50);
        x.measure(true, 0, 4, 51);
        x.set(0, 1, 3);
        x.set(1, 1, 2);
        x.set(2, 1, 54);
        return x;
    }

    private static void factsOfDays() {
        sentence(17, "kind, lets, torn, worn, dirt: of the THING;", () -> {
            String all = "kind=2 and lets=6 and torn=2 and worn=54 and dirt=3 and by=0 and out=0 and measure=0 and next=0";
            CostumeStock x = factual();
            x.hire(1, 9, 0);
            Check.told(x, 1, "tear 1000 when " + all + ";dirt 4 when " + all + ";", 2);
            due("tear", x.days(1), 1);
            due("dirt", x.of(1, 2), 7);
            due("not so on the next day", x.days(1), 0);
            due("dirt", x.of(1, 2), 7);
        });
        sentence(17, "next: KIND of the THING that is put on (change; else 0).", () -> {
            CostumeStock x = factual();
            // From the uniform to the mask: of the thing taken off all, of the thing put on the kind.
            Check.told(x, 1, "change 1 when kind=2 and lets=6 and torn=2 and worn=54 and dirt=3 and next=3;change 9;", 2);
            Check.tell(x, 2, "scene 1 wear 0 uniform;scene 0 wear 0 mask;");
            due("change 1", x.plan(0), 1);
            Check.tell(x, 2, "scene 0 wear 0 uniform;scene 0 wear 0 mask;");
            due("not 0", x.plan(0), NONE);
            Check.tell(x, 2, "scene 8 wear 0 mask;scene 0 wear 0 uniform;");
            due("the other way not 8", x.plan(0), NONE);
            Check.tell(x, 2, "scene 9 wear 0 mask;scene 0 wear 0 uniform;");
            due("the other way 9", x.plan(0), 1);
            Check.tell(x, 2, "scene 1 wear 0 uniform;scene 0 wear 0 mask;");
            Check.told(x, 1, "change 1 when by=0 and out=0 and measure=0;change 9;", 2);
            due("nothing of cost", x.plan(0), 1);
        });
        sentence(17, "(change; else 0).", () -> {
            CostumeStock x = factual();
            Check.tell(x, 0, "cost 1+next;mend 1+next;");
            Check.tell(x, 1, "change 1+next-next;dirt 1+next;tear 1000 when next>0;");
            Check.tell(x, 2, "scene 1 wear 0 uniform;scene 0 wear 0 mask;");
            due("a change is asked", x.plan(1), 1);
            due("cost", x.cost(1, 0), 1);
            x.plan(0);
            x.care(1, true);
            due("mend", x.look(4), -1);
            x.hire(1, 1, 0);
            due("tear", x.days(1), 0);
            due("dirt", x.of(1, 2), 4);
        });
    }

    private static void heldTo() {
        sentence(17, "cost, mend held to 0 .. 9999,", () -> {
            cost("9999", 9999);
            cost("9999+1", 9999);
            cost("9998+0", 9998);
            cost("9999*9999*21", 9999);
            cost("0-1", 0);
            cost("9999*9999*22", 0);
            int[][] rows = {{9999, 9999}, {10000, 9999}, {9998, 9998}, {1, 1}, {0, 0}, {-1, 0}};
            for (int[] row : rows) {
                CostumeStock x = Houses.small();
                x.set(1, 0, 1);
                Check.tell(x, 0, "mend 5000-5000+" + (row[0] < 0 ? "0-1" : row[0] / 2 + "+" + (row[0] - row[0] / 2)) + ";");
                x.care(0, true);
                due("mend " + row[0], x.look(4), -row[1]);
            }
        });
        sentence(17, "tear to 0 .. 1000, dirt to 0 .. 9,", () -> {
            for (String tear : new String[] {"1000", "1001", "9999*9999*21"}) {
                CostumeStock x = Houses.small();
                Check.tell(x, 1, "tear " + tear + ";dirt " + tear + ";");
                x.hire(0, 9, 0);
                due("tears each day", x.days(9), 9);
                due("dirt 9", x.of(0, 2), 9);
            }
            CostumeStock x = Houses.small();
            Check.tell(x, 1, "tear 9999*9999*22;dirt 9999*9999*22;");
            x.hire(0, 9, 0);
            x.set(0, 0, 4);
            due("none below 0", x.days(5), 0);
            due("no draw", x.look(6), 0);
            due("dirt not less", x.of(0, 2), 4);
        });
        sentence(17, "change to 0 .. 999.", () -> {
            CostumeStock x = Houses.small();
            x.actor();
            x.measure(true, 1, 0, 53);
            Check.tell(x, 2, "scene 99 wear 0 dress;scene 0 wear 1 dress;");
            // Twice 1999600020 would wrap below 0: held to 999 ahead of it, it is 1998.
            Check.tell(x, 1, "change 9999*9999*20;");
            due("twice 999", x.plan(0), NONE);
            Check.tell(x, 1, "change 50;");
            due("twice 50", x.plan(0), NONE);
            Check.tell(x, 1, "change 49;");
            due("twice 49", x.plan(0), 6);
            // Twice -2095407274 would wrap above 0: held to 0 ahead of it, it is 0.
            Check.tell(x, 1, "change 9999*9999*22;");
            due("twice 0", x.plan(0), 6);
        });
    }

    private static void promise18() {
        sentence(18, "Of the latest text(): what 0 the FAULT (0 without one), 1 its place (NONE).", () -> {
            CostumeStock x = Houses.small();
            due("at first", x.fault(0), 0);
            due("at first", x.fault(1), NONE);
            Check.faulty(x, 0, "cost 1;  cost 1/0;", 2, 16);
            due("asked again", x.fault(0), 2);
            due("asked again", x.fault(1), 16);
            Check.feed(x, "mend 1");
            due("the tape does not count", x.fault(1), 16);
            x.end(3);
            due("the tape does not count", x.fault(0), 2);
            x.text(1);
            due("the latest", x.fault(0), 1);
            due("the latest", x.fault(1), 0);
            Check.faulty(x, 0, "cost 1 when " + "(".repeat(9), 3, 20);
            Check.told(x, 0, "cost 1;", 1);
            Check.faulty(x, 2, "scene", 1, 5);
            due("no such text", x.text(3), NONE);
            due("no fault", x.fault(0), 0);
            due("no place", x.fault(1), NONE);
        });
        sentence(18, "NONE for another what.", () -> {
            for (int what : new int[] {-1, 2, Integer.MIN_VALUE, Integer.MAX_VALUE}) {
                refused("fault(" + what + ")", Houses::busy, x -> x.fault(what), NONE);
                due("without a fault", new CostumeStock().fault(what), NONE);
            }
        });
    }
}
