import java.util.Random;

/** Texts as the grammar tells them, some of them spoilt in one place. */
final class RandomText {
    private static final String[] FACTS =
            {"by", "out", "measure", "kind", "lets", "torn", "worn", "dirt", "next"};
    private static final String[] WORDS = {"cost", "mend", "tear", "dirt", "change", "when", "or", "and", "not",
        "by", "scene", "wear", "coat", "trunk", "0", "1", "12345", ";", "+", "/", "(", ")", "<", "=", "Cost", "!", ""};

    private final Random random;
    private final int actors;

    RandomText(Random random, int actors) {
        this.random = random;
        this.actors = actors;
    }

    String text(int k) {
        String text = "";
        int lines = random.nextInt(random.nextInt(6) == 0 ? 20 : 6);
        if (k == 2) {
            text = scenes();
        } else {
            for (int i = 0; i < lines; i++) {
                text += line(k);
            }
        }
        if (random.nextInt(4) == 0) {
            text = spoil(text);
        }
        return text.length() > 400 ? text.substring(0, 400) : text;
    }

    private String blank() {
        return random.nextInt(3) == 0 ? "" : random.nextInt(9) == 0 ? " \n" : " ";
    }

    private String pick(String... any) {
        return any[random.nextInt(any.length)];
    }

    private String line(int k) {
        String word = k == 0 ? pick("cost", "cost", "mend") : pick("tear", "dirt", "change", "change");
        return word + " " + e() + (random.nextInt(3) == 0 ? "" : " when " + b(0)) + blank() + ";" + blank();
    }

    private String b(int depth) {
        String text = c(depth);
        while (random.nextInt(3) == 0) {
            text += pick(" or ", " and ") + c(depth);
        }
        return text;
    }

    private String c(int depth) {
        if (depth < 10 && random.nextInt(4) == 0) {
            return random.nextBoolean() ? "not " + c(depth + 1) : "(" + blank() + b(depth + 1) + ")";
        }
        return e() + blank() + pick("<", "=", ">") + blank() + e();
    }

    private String e() {
        String text = u();
        while (random.nextInt(3) == 0) {
            String sign = pick("+", "-", "*", "/");
            text += blank() + sign + blank() + (sign.equals("/") ? "" + (1 + random.nextInt(9)) : u());
        }
        return text;
    }

    private String u() {
        return random.nextBoolean() ? pick(FACTS) : "" + random.nextInt(random.nextInt(4) == 0 ? 1000 : 10);
    }

    private String scenes() {
        String text = "";
        int wears = 0;
        int scenes = random.nextInt(9) == 0 ? 7 : 1 + random.nextInt(4);
        for (int i = 0; i < scenes; i++) {
            text += "scene " + random.nextInt(random.nextInt(3) == 0 ? 30 : 7);
            for (int a = 0; a < actors; a++) {
                if (random.nextInt(3) > 0 && (wears < 6 || random.nextInt(9) == 0)) {
                    wears++;
                    text += " wear " + a + " " + pick("dress", "dress", "coat", "uniform", "mask", "set");
                }
            }
            text += blank() + ";" + blank();
        }
        return text;
    }

    private String spoil(String text) {
        int at = random.nextInt(text.length() + 1);
        int behind = Math.min(text.length(), at + random.nextInt(4));
        return text.substring(0, at) + pick(WORDS) + text.substring(behind);
    }
}
