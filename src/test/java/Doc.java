import java.io.IOException;
import java.nio.file.Files;
import java.nio.file.Path;
import java.util.BitSet;
import java.util.HashSet;
import java.util.Set;
import java.util.function.IntToLongFunction;

/** The document's own words: each test of an edge says which sentence it holds the class to. */
final class Doc {
    private static final int PROMISES = 31;
    private static final String TEXT = read();
    private static final BitSet TESTED = new BitSet();
    private static final int[] SENTENCES = new int[PROMISES + 1];
    private static final Set<String> WORDS = new HashSet<>();

    private Doc() {
    }

    /** Without the document the edges are tested all the same, only its words are not looked up. */
    private static String read() {
        try {
            return Files.readString(Path.of("../shared/DOC.md")).replaceAll("\\s+", " ");
        } catch (IOException e) {
            System.out.println("the document is not there: its words are not looked up");
            return "";
        }
    }

    /** What is asked from here on is asked by these words, which must stand in the document. */
    static void says(int promise, String words) {
        Due.under(promise + ", '" + words + "': ");
        Due.is("the document says so", TEXT.isEmpty() || TEXT.contains(words), true);
        SENTENCES[promise]++;
        WORDS.add(words);
        for (int at = TEXT.indexOf(words); at >= 0; at = TEXT.indexOf(words, at + 1)) {
            TESTED.set(at, at + words.length());
        }
    }

    /** The bounds are taken; one below and one above them, and the farthest there are, are refused. */
    static void bounds(String call, IntToLongFunction asked, int least, int most, long refused) {
        Due.is(call + " at " + least + " is taken", asked.applyAsLong(least) != refused, true);
        Due.is(call + " at " + most + " is taken", asked.applyAsLong(most) != refused, true);
        for (int beyond : new int[] {least - 1, most + 1, Integer.MIN_VALUE, Integer.MAX_VALUE}) {
            Due.is(call + " at " + beyond, asked.applyAsLong(beyond), refused);
        }
    }

    static void end() {
        Due.under("");
        for (int promise = 1; promise <= PROMISES; promise++) {
            Due.is("promise " + promise + " has sentences that are tested", SENTENCES[promise] > 0, true);
        }
        System.out.println(WORDS.size() + " sentences, or parts of one, of the document have tests of their own");
    }

    /** Those words that no test names, for who looks for an edge that was left out. */
    static void printUntested() {
        int at = Math.max(0, TEXT.indexOf("## Terms"));
        for (at = TESTED.nextClearBit(at); at < TEXT.length(); at = TESTED.nextClearBit(at)) {
            int next = TESTED.nextSetBit(at);
            int end = next < 0 ? TEXT.length() : next;
            System.out.println(TEXT.substring(at, end));
            at = end;
        }
    }
}
