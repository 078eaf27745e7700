/** What the tests share: answers that are due, and texts fed by the twenty bytes. */
final class Check {
    private static int wrong = 0;
    private static int asked = 0;
    private static String test = "";

    private Check() {
    }

    static void due(String call, long got, long want) {
        asked++;
        if (got != want) {
            wrong++;
            System.out.println((test.isEmpty() ? "" : test + ": ") + call + " answered " + got + ", due is " + want);
        }
    }

    /** Names the test that the answers from here on belong to. */
    static void within(String name) {
        test = name;
    }

    static void due(String call, boolean got, boolean want) {
        due(call, got ? 1 : 0, want ? 1 : 0);
    }

    /** The five numbers of twenty bytes that stand in a text from a place on, blanks behind its end. */
    static int[] numbers(String text, int from) {
        int[] numbers = new int[5];
        for (int i = 0; i < 20; i++) {
            int sign = from + i < text.length() ? text.charAt(from + i) & 255 : ' ';
            numbers[i / 4] = numbers[i / 4] << 8 | sign;
        }
        return numbers;
    }

    static void feed(CostumeStock x, String text) {
        for (int from = 0; from < text.length(); from += 20) {
            int[] n = numbers(text, from);
            x.feed(n[0], n[1], n[2], n[3], n[4]);
        }
        x.end(text.length());
    }

    /** Feeds a text to an empty tape and tells it. */
    static int tell(CostumeStock x, int k, String text) {
        feed(x, text);
        return x.text(k);
    }

    /** A text that is right: how many lines or scenes it has. */
    static void told(CostumeStock x, int k, String text, int lines) {
        due("text(" + k + ") of " + text, tell(x, k, text), lines);
        due("fault(0) of " + text, x.fault(0), 0);
        due("fault(1) of " + text, x.fault(1), -1);
    }

    /** A text with a fault at a place. */
    static void faulty(CostumeStock x, int k, String text, int fault, int place) {
        due("text(" + k + ") of " + text, tell(x, k, text), -1);
        due("fault(0) of " + text, x.fault(0), fault);
        due("fault(1) of " + text, x.fault(1), place);
    }

    static void finish() {
        System.out.println(asked + " answers asked, " + wrong + " not as due");
        if (wrong != 0) {
            System.exit(1);
        }
    }
}
