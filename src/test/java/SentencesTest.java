/** One test for each sentence of the document, all promises: 1 to 42; with the argument "names" they are told. */
public final class SentencesTest {
    public static void main(String[] args) {
        Promises.named = args.length > 0 && args[0].equals("names");
        Story.all();
        Promises01To07.all();
        Promises08To14.all();
        Promises15To18.all();
        Promises19To27.all();
        Promises28.all();
        Promises29To36.all();
        Promises37To42.all();
        Promises.DOCUMENT.finish();
        Check.finish();
    }
}
