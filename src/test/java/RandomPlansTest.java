import java.util.Random;

/** Houses in which there often is a plan: every answer of plan() and swaps() by the class and by the model. */
public final class RandomPlansTest {
    private static final int HOUSES = 600;
    private static final String[] KINDS = {"dress", "dress", "dress", "coat", "coat", "uniform", "mask"};
    private static final String[] COSTS = {"", "cost by*by;", "cost 3 when out=1;cost 2;",
        "cost by when kind=0;cost 1;"};
    private static final String[] CHANGES = {"", "change 1;", "change kind+next;", "change 2 when kind=next;change 5;",
        "change lets/5;", "change torn*2+1;"};

    private static int plans = 0;

    public static void main(String[] args) {
        for (int house = 0; house < HOUSES; house++) {
            compare(house);
        }
        System.out.println(plans + " of " + HOUSES + " houses have a plan");
        Check.due("enough houses have a plan", plans > HOUSES / 3, true);
        Check.finish();
    }

    private static void compare(int seed) {
        Random random = new Random(seed);
        CostumeStock x = new CostumeStock();
        Model m = new Model();
        int things = 3 + random.nextInt(4);
        int actors = 1 + random.nextInt(4);
        for (int t = 0; t < things; t++) {
            int kind = random.nextInt(8) == 0 ? 3 : random.nextInt(3);
            int lets = 3 + random.nextInt(8);
            int torn = random.nextInt(6);
            x.thing(kind, lets);
            m.thing(kind, lets);
            x.set(1, t, torn);
            m.set(1, t, torn);
        }
        for (int i = 0; i < things * 2 + actors * 4; i++) {
            boolean actor = i >= things * 2;
            int who = random.nextInt(actor ? actors : things);
            int measure = random.nextInt(3);
            int v = 46 + random.nextInt(8);
            if (actor && i < things * 2 + actors) {
                x.actor();
                m.actor();
            }
            x.measure(actor, who, measure, v);
            m.measure(actor, who, measure, v);
        }
        tell(x, m, 0, COSTS[random.nextInt(COSTS.length)]);
        tell(x, m, 1, CHANGES[random.nextInt(CHANGES.length)]);
        tell(x, m, 2, scenes(random, actors));
        for (int what = 0; what < 66; what++) {
            Check.due("house " + seed + ": plan(" + what + ")", x.plan(what), m.plan(what));
        }
        for (int what = 0; what < 4; what++) {
            Check.due("house " + seed + ": swaps(" + what + ")", x.swaps(what), m.swaps(what));
        }
        plans += m.plan(0) >= 0 ? 1 : 0;
    }

    private static String scenes(Random random, int actors) {
        StringBuilder text = new StringBuilder();
        int wears = 0;
        for (int i = 0; i < 1 + random.nextInt(4); i++) {
            text.append("scene ").append(random.nextInt(8));
            for (int a = 0; a < actors; a++) {
                if (wears < 5 && random.nextInt(5) < 3) {
                    wears++;
                    text.append(" wear ").append(a).append(' ').append(KINDS[random.nextInt(KINDS.length)]);
                }
            }
            text.append(";");
        }
        return text.toString();
    }

    private static void tell(CostumeStock x, Model m, int k, String text) {
        for (int from = 0; from < text.length(); from += 20) {
            int[] n = Check.numbers(text, from);
            x.feed(n[0], n[1], n[2], n[3], n[4]);
            m.feed(n[0], n[1], n[2], n[3], n[4]);
        }
        x.end(text.length());
        m.end(text.length());
        Check.due("text(" + k + ") of " + text, x.text(k), m.text(k));
    }
}
