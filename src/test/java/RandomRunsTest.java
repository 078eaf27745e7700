import java.util.Random;

/** Random runs of calls, each answered by the class and by the model: all promises, wrong inputs among them. */
public final class RandomRunsTest {
    private static final int RUNS = 400;
    private static final int CALLS = 500;
    private static final long MOST_PLANS = 3000;

    private final Random random;
    private final long seed;
    private final CostumeStock x = new CostumeStock();
    private final Model m = new Model();

    private RandomRunsTest(long seed) {
        this.seed = seed;
        this.random = new Random(seed);
    }

    public static void main(String[] args) {
        for (int run = 0; run < RUNS; run++) {
            new RandomRunsTest(run).run();
        }
        Check.finish();
    }

    private void run() {
        setUp();
        for (int i = 0; i < CALLS; i++) {
            call();
        }
    }

    private void same(String call, long got, long want) {
        Check.due("run " + seed + ": " + call, got, want);
    }

    private void same(String call, boolean got, boolean want) {
        Check.due("run " + seed + ": " + call, got, want);
    }

    private static String row(String name, int... args) {
        StringBuilder b = new StringBuilder(name).append('(');
        for (int i = 0; i < args.length; i++) {
            b.append(i == 0 ? "" : ", ").append(args[i]);
        }
        return b.append(')').toString();
    }

    private int upTo(int most) {
        return random.nextInt(most + 1);
    }

    /** Mostly 0 .. most, at times a little or far outside. */
    private int about(int most) {
        int odd = random.nextInt(40);
        if (odd == 0) {
            return -1;
        }
        if (odd == 1) {
            return most + 1;
        }
        if (odd == 2) {
            return random.nextInt();
        }
        return upTo(most);
    }

    private int thing() {
        return about(Math.max(0, m.look(0) - 1));
    }

    private int actor() {
        return about(Math.max(0, m.look(1) - 1));
    }

    private int holder() {
        if (m.look(2) > 0 && random.nextInt(2) == 0) {
            return about(m.look(2) - 1);
        }
        return 10 + thing();
    }

    // ---- a house to begin with

    private void setUp() {
        int things = 3 + upTo(random.nextInt(4) == 0 ? 13 : 7);
        for (int i = 0; i < 1 + upTo(3); i++) {
            newRack(1 + upTo(7));
        }
        for (int i = 0; i < 1 + upTo(5); i++) {
            newActor();
        }
        for (int i = 0; i < things; i++) {
            newThing(random.nextInt(3) == 0 ? 5 : upTo(4), upTo(20));
        }
        for (int i = 0; i < 30; i++) {
            newMeasure(45 + upTo(9));
        }
        for (int k = 0; k < 3; k++) {
            newText(k);
        }
    }

    private void newRack(int slots) {
        same(row("rack", slots), x.rack(slots), m.rack(slots));
    }

    private void newActor() {
        same("actor()", x.actor(), m.actor());
    }

    private void newThing(int kind, int lets) {
        same(row("thing", kind, lets), x.thing(kind, lets), m.thing(kind, lets));
    }

    private void newMeasure(int v) {
        boolean actor = random.nextBoolean();
        int who = actor ? actor() : thing();
        int measure = about(4);
        same(row("measure " + actor, who, measure, v),
                x.measure(actor, who, measure, v), m.measure(actor, who, measure, v));
    }

    private void newText(int k) {
        String text = new RandomText(random, Math.max(1, m.look(1))).text(k);
        for (int from = 0; from < text.length(); from += 20) {
            int[] n = Check.numbers(text, from);
            same("feed", x.feed(n[0], n[1], n[2], n[3], n[4]), m.feed(n[0], n[1], n[2], n[3], n[4]));
        }
        same(row("end", text.length()), x.end(text.length()), m.end(text.length()));
        same(row("text", k) + " of " + text, x.text(k), m.text(k));
        same("fault(0) of " + text, x.fault(0), m.fault(0));
        same("fault(1) of " + text, x.fault(1), m.fault(1));
    }

    // ---- calls

    private void call() {
        int kind = random.nextInt(100);
        if (kind < 40) {
            act();
        } else if (kind < 45) {
            tell();
        } else if (kind < 70) {
            ask();
        } else {
            think();
        }
    }

    private void act() {
        int thing = thing();
        switch (random.nextInt(13)) {
            case 0, 1, 2, 3 -> {
                int holder = holder();
                int slot = about(4);
                same(row("put", thing, holder, slot), x.put(thing, holder, slot), m.put(thing, holder, slot));
            }
            case 4 -> {
                int holder = holder();
                int slot = about(4);
                same(row("take", holder, slot), x.take(holder, slot), m.take(holder, slot));
            }
            case 5, 6 -> {
                int actor = random.nextInt(4) == 0 ? -1 : actor();
                same(row("alter", thing, actor), x.alter(thing, actor), m.alter(thing, actor));
            }
            case 7 -> {
                boolean mend = random.nextBoolean();
                same(row("care " + mend, thing), x.care(thing, mend), m.care(thing, mend));
            }
            case 8 -> {
                int days = random.nextInt(3) > 0 ? 1 + upTo(5) : about(99);
                int deposit = random.nextInt(3) > 0 ? upTo(200) : about(9999);
                same(row("hire", thing, days, deposit), x.hire(thing, days, deposit), m.hire(thing, days, deposit));
            }
            case 9 -> {
                int damage = about(9);
                same(row("back", thing, damage), x.back(thing, damage), m.back(thing, damage));
            }
            case 10 -> {
                int n = random.nextInt(5) > 0 ? upTo(3) : about(60);
                same(row("days", n), x.days(n), m.days(n));
            }
            default -> same("undo()", x.undo(), m.undo());
        }
    }

    private void tell() {
        int thing = thing();
        switch (random.nextInt(14)) {
            case 0 -> {
                int v = random.nextInt();
                same(row("state", v), x.state(v), m.state(v));
            }
            case 1 -> newThing(about(5), about(20));
            case 2 -> newActor();
            case 3 -> newRack(about(8));
            case 4, 5 -> newMeasure(random.nextBoolean() ? 45 + upTo(9) : about(99));
            case 6, 7 -> {
                int what = about(4);
                int most = new int[] {9, 9, 999, 20}[Math.floorMod(what, 4)];
                int v = what == 4 ? random.nextInt(3000) - 1000 : about(most);
                same(row("set", what, thing, v), x.set(what, thing, v), m.set(what, thing, v));
            }
            case 8, 9, 10 -> newText(random.nextInt(3));
            case 11 -> {
                int k = about(2);
                same(row("text", k), x.text(k), m.text(k));
                same("fault(0)", x.fault(0), m.fault(0));
            }
            default -> {
                boolean taken = random.nextInt(3) > 0;
                same("image " + taken, x.image(taken), m.image(taken));
            }
        }
    }

    private void ask() {
        int thing = thing();
        int what = about(10);
        switch (random.nextInt(8)) {
            case 0, 1 -> same(row("of", thing, what), x.of(thing, what), m.of(thing, what));
            case 2 -> {
                int measure = about(4);
                int which = about(1);
                same(row("at", thing, measure, which), x.at(thing, measure, which), m.at(thing, measure, which));
            }
            case 3 -> {
                int actor = actor();
                int measure = about(4);
                same(row("body", actor, measure), x.body(actor, measure), m.body(actor, measure));
            }
            case 4 -> {
                int holder = holder();
                int slot = about(7);
                same(row("slot", holder, slot), x.slot(holder, slot), m.slot(holder, slot));
            }
            case 5 -> {
                int i = about(Math.max(0, m.look(5) - 1));
                int which = about(3);
                same(row("book", i, which), x.book(i, which), m.book(i, which));
            }
            case 6 -> {
                int i = about(5);
                int which = about(2);
                same(row("wear", i, which), x.wear(i, which), m.wear(i, which));
            }
            default -> {
                int which = about(36);
                same(row("look", which), x.look(which), m.look(which));
            }
        }
    }

    private void think() {
        int thing = thing();
        int actor = actor();
        int kind = about(5);
        int which = about(3);
        switch (random.nextInt(20)) {
            case 0 -> same(row("fits", thing, actor), x.fits(thing, actor), m.fits(thing, actor));
            case 1 -> same(row("cost", thing, actor), x.cost(thing, actor), m.cost(thing, actor));
            case 2 -> same(row("suits", thing, kind), x.suits(thing, kind), m.suits(thing, kind));
            case 3 -> same(row("best", actor, kind), x.best(actor, kind), m.best(actor, kind));
            case 4 -> {
                int set = about((1 << m.look(0)) - 1);
                same(row("dresses", set), x.dresses(set), m.dresses(set));
            }
            case 5 -> {
                int holder = holder();
                same(row("holds", holder, kind), x.holds(holder, kind), m.holds(holder, kind));
            }
            case 6 -> same(row("path", thing, which), x.path(thing, which), m.path(thing, which));
            case 7 -> {
                if (m.look(0) < 11) {
                    same(row("tour", which), x.tour(which), m.tour(which));
                }
            }
            case 8 -> same(row("alone", thing), x.alone(thing), m.alone(thing));
            case 9 -> {
                int sum = random.nextBoolean() ? upTo(100) : about(99999);
                same(row("mends", sum, which), x.mends(sum, which), m.mends(sum, which));
            }
            case 10 -> {
                int day = upTo(6);
                int n = random.nextInt(9) > 0 ? 1 + upTo(3) : about(99);
                int pays = random.nextInt(9) > 0 ? upTo(9) : about(9999);
                int of = random.nextInt(12) == 0 ? -1 : thing;
                same(row("wish", of, day, n, pays), x.wish(of, day, n, pays), m.wish(of, day, n, pays));
            }
            case 11 -> same(row("earns", which), x.earns(which), m.earns(which));
            case 12 -> {
                int n = about(8);
                int i = about(8);
                same(row("share", n, i), x.share(n, i), m.share(n, i));
            }
            case 13, 14 -> {
                if (m.planSize() <= MOST_PLANS) {
                    same(row("swaps", which), x.swaps(which), m.swaps(which));
                }
            }
            default -> {
                int what = random.nextInt(6) * 10 + (random.nextBoolean() ? upTo(1) : about(9));
                if (m.planSize() <= MOST_PLANS) {
                    same(row("plan", what), x.plan(what), m.plan(what));
                }
            }
        }
    }
}
