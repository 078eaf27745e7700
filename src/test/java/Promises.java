import java.util.function.Supplier;
import java.util.function.ToIntFunction;

/** What every file of tests by sentence uses: a test names its promise and quotes the words that it asks about. */
abstract class Promises {
    static final int NONE = -1;
    static final int NO_SUCH = -2;
    static final int NO_LINE = -1000000;
    static final Document DOCUMENT = new Document();

    /** Whether the names of the tests are told as they are run. */
    static boolean named = false;

    static void sentence(int promise, String words, Runnable test) {
        String name = "promise " + promise + ", \"" + words + "\"";
        if (named) {
            System.out.println(name);
        }
        Check.within(name);
        DOCUMENT.quote(promise, words);
        test.run();
        Check.within("");
    }

    static void due(String call, long got, long want) {
        Check.due(call, got, want);
    }

    static void due(String call, boolean got, boolean want) {
        Check.due(call, got, want);
    }

    /** A call that is refused: its answer, and that it left no trace. */
    static void refused(String call, Supplier<CostumeStock> house, ToIntFunction<CostumeStock> ask, int answer) {
        CostumeStock x = house.get();
        due(call, ask.applyAsInt(x), answer);
        Trace.same(call + " leaves", x, house.get());
    }

    /** A call that is refused with false. */
    static void denied(String call, Supplier<CostumeStock> house, Question ask) {
        refused(call, house, x -> ask.of(x) ? 1 : 0, 0);
    }

    /** A call whose answer is a boolean. */
    interface Question {
        boolean of(CostumeStock x);
    }
}
