/** What the document says first, phrase by phrase: one house from its first rack to the image from which it goes on. */
final class Story extends Promises {
    private static final int DRESS = 0;
    private static final int COAT = 1;
    private static final int UNIFORM = 2;
    private static final int MASK = 3;
    private static final int SET = 4;
    private static final int TRUNK = 5;
    private static final int SMALL_TRUNK = 6;
    private static final int ANNA = 0;
    private static final int BERT = 1;

    private final CostumeStock x = new CostumeStock();

    static void all() {
        Story story = new Story();
        story.places();
        story.altering();
        story.scenes();
        story.thoughtOfThings();
        story.thoughtOfPlan();
        story.hires();
        story.undone();
        story.goesOn();
    }

    private void places() {
        sentence(8, "Costume stock: a theatre's house of racks and trunks with slots that hold dresses, coats, uniforms, "
                + "masks, sets, or another trunk, or nothing;", () -> {
            due("a rack", x.rack(3), 0);
            due("another", x.rack(2), 1);
            int[] lets = {4, 6, 3, 0, 10, 0, 0};
            int[] kinds = {0, 1, 2, 3, 4, 5, 5};
            for (int thing = 0; thing < kinds.length; thing++) {
                due("a thing", x.thing(kinds[thing], lets[thing]), thing);
            }
            due("a trunk in a rack", x.put(TRUNK, 0, 0), true);
            due("another trunk in it", x.put(SMALL_TRUNK, 10 + TRUNK, 0), true);
            due("a mask in that", x.put(MASK, 10 + SMALL_TRUNK, 3), true);
            due("a dress", x.put(DRESS, 0, 1), true);
            due("a coat", x.put(COAT, 0, 2), true);
            due("a uniform", x.put(UNIFORM, 1, 0), true);
            due("a set", x.put(SET, 10 + TRUNK, 1), true);
            due("or nothing", x.slot(1, 1), NONE);
        });
    }

    private void altering() {
        sentence(6, "measures of things and of actors, some of them missing;", () -> {
            due("Anna", x.actor(), ANNA);
            due("Bert", x.actor(), BERT);
            int[] made = {50, 54, 56, 0, 60};
            for (int thing = 0; thing < made.length; thing++) {
                due("a measure of a thing", x.measure(false, thing, 0, made[thing]), true);
            }
            due("another of the dress", x.measure(false, DRESS, 1, 80), true);
            due("another of the uniform", x.measure(false, UNIFORM, 2, 30), true);
            due("of Anna", x.measure(true, ANNA, 0, 52), true);
            due("of Anna", x.measure(true, ANNA, 1, 82), true);
            due("of Bert", x.measure(true, BERT, 0, 55), true);
            due("missing", x.body(BERT, 2), 0);
            due("missing", x.at(COAT, 1, 0), 0);
        });
        sentence(25, "how far a thing can be altered, and what it costs by a law that is told as a text;", () -> {
            due("far enough", x.fits(DRESS, ANNA), 1);
            due("too far", x.fits(DRESS, BERT), 0);
            Check.told(x, 0, "cost by*3 when out=1;\ncost by; mend 4*torn;", 3);
            due("let out by 2 twice", x.cost(DRESS, ANNA), 12);
            due("taken in by 2", x.cost(COAT, ANNA), 2);
            due("too far", x.cost(DRESS, BERT), NONE);
        });
    }

    private void scenes() {
        sentence(17, "scenes with who wears what as a text, quick changes in their minutes,", () -> {
            Check.told(x, 1, "tear 1000 when worn>0; dirt 2; change kind+1;", 3);
            Check.told(x, 2, "scene 1 wear 0 dress wear 1 coat; scene 9 wear 0 mask wear 1 dress;", 2);
            due("Anna can't change from a coat in one minute", x.plan(10), DRESS);
            due("so it is dear", x.plan(0), 14);
            Check.told(x, 2, "scene 2 wear 0 dress wear 1 coat; scene 9 wear 0 mask wear 1 dress;", 2);
            due("she can in two", x.plan(10), COAT);
            due("and it is cheap", x.plan(0), 4);
            due("who wears it", x.wear(3, 1), BERT);
            due("what", x.wear(3, 2), 0);
        });
    }

    private void thoughtOfThings() {
        sentence(24, "in thought who fits what, and how dear,", () -> {
            due("the coat fits Bert", x.fits(COAT, BERT), 1);
            due("let out by 1", x.cost(COAT, BERT), 3);
            due("the uniform is open to him", x.fits(UNIFORM, BERT), 2);
            due("taken in by 1", x.cost(UNIFORM, BERT), 1);
        });
        sentence(32, "what is where and in what at any depth,", () -> {
            due("the mask's rack", x.path(MASK, 0), 0);
            due("trunks around it", x.path(MASK, 1), 2);
            due("things in the trunk", x.of(TRUNK, 9), 3);
            due("masks in the rack", x.holds(0, 3), 1);
            due("trunks in the rack", x.holds(0, 5), 2);
        });
        sentence(29, "the best thing for an actor,", () -> {
            due("a dress for Anna", x.best(ANNA, 0), COAT);
            due("a coat for Bert", x.best(BERT, 1), COAT);
        });
        sentence(30, "what a set of things can dress;", () -> {
            due("dress and uniform", x.dresses(1 << DRESS | 1 << UNIFORM), 1 << ANNA);
            due("the coat", x.dresses(1 << COAT), 1 << ANNA | 1 << BERT);
        });
    }

    private void thoughtOfPlan() {
        sentence(28, "the plan of least cost for all scenes and what is proved of it,", () -> {
            int[] things = {COAT, UNIFORM, MASK, UNIFORM};
            for (int i = 0; i < things.length; i++) {
                due("wear " + i, x.plan(10 + i), things[i]);
            }
            due("no plan costs less", x.plan(20), 4);
            due("than it does", x.plan(0), 4);
            due("without the coat", x.plan(40), 14);
            due("without the uniform in wear 1", x.plan(41), 16);
        });
        sentence(28, "what could be worn in a scene instead,", () -> {
            due("the dress", x.plan(30), 1 << DRESS);
            due("nothing, the coat is worn", x.plan(31), 0);
        });
        sentence(28, "how many times a thing is changed,", () -> {
            due("Anna's coat for the mask", x.plan(1), 1);
            due("the uniform's wears", x.plan(50 + UNIFORM), 2 | 8);
        });
    }

    private void hires() {
        sentence(12, "hires that go out and come back, deposits, a purse;", () -> {
            due("the purse", x.set(4, 0, 100), true);
            due("the image for later", x.image(true), true);
            due("due", x.hire(COAT, 2, 50), 2);
            due("with the deposit", x.look(4), 150);
        });
        sentence(14, "what tears and soils by the day by a second law;", () -> {
            due("torn more", x.days(3), 2);
            due("torn", x.of(COAT, 3), 2);
            due("dirt", x.of(COAT, 2), 6);
        });
        sentence(42, "what is late,", () -> due("the coat", x.look(12), 1 << COAT));
        sentence(13, "hires that go out and come back, deposits, a purse;", () -> {
            due("paid back", x.back(COAT, 1), 35);
            due("what stays", x.look(4), 115);
            due("mended", x.care(COAT, true), true);
            due("washed", x.care(COAT, false), true);
            due("mended for", x.look(4), 103);
        });
        sentence(39, "shares of the purse with odd cents by rank,", () -> {
            for (int rank = 0; rank < 4; rank++) {
                due("of rank " + rank, x.share(4, rank), rank < 3 ? 26 : 25);
            }
        });
        sentence(23, "a book of what was done;", () -> {
            int[][] lines = {{0, COAT, 5, 150}, {3, COAT, 6, 115}, {3, COAT, 4, 103}, {3, COAT, 3, 103}};
            due("lines", x.look(5), 7 + lines.length);
            for (int i = 0; i < lines.length; i++) {
                for (int what = 0; what < 4; what++) {
                    due("line " + (7 + i) + ", " + what, x.book(7 + i, what), lines[i][what]);
                }
            }
        });
    }

    private void undone() {
        sentence(40, "all undone that was done,", () -> {
            due("one act more", x.alter(COAT, ANNA), 2);
            for (int left = 6; left > 0; left--) {
                due("what can be undone", x.look(11), left);
                due("undo()", x.undo(), true);
            }
            due("nothing more", x.undo(), false);
            due("the first of three days stays", x.look(3), 1);
            due("dirt", x.of(COAT, 2), 2);
            due("torn", x.of(COAT, 3), 0);
            due("as it was made", x.at(COAT, 0, 1), 54);
            due("the purse", x.look(4), 150);
            due("the book", x.look(5), 8);
        });
    }

    private void goesOn() {
        sentence(41, "and an image from which all goes on.", () -> {
            for (int time = 0; time < 2; time++) {
                due("gone back", x.image(false), true);
                due("the purse", x.look(4), 100);
                due("the coat is in its slot", x.slot(0, 2), COAT);
                due("the plan", x.plan(0), 4);
                due("out again", x.hire(COAT, 2, 50), 2);
                due("torn again", x.days(3), 2);
                due("back again", x.back(COAT, 1), 35);
            }
        });
        sentence(1, "what later calls answer is free.", () -> {
            CostumeStock y = new CostumeStock();
            for (int call = 0; call < 511; call++) {
                y.state(call);
            }
            due("the 512th call is none of them", y.actor(), 0);
        });
    }
}
