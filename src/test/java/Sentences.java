import java.util.BitSet;
import java.util.Map;
import java.util.TreeMap;
import java.util.regex.Matcher;
import java.util.regex.Pattern;

/**
 * The document's sentences, and which of them have had a test. A test tells the promise and the words that it
 * is about; words that the document doesn't say there, and sentences without a test, are faults too.
 */
final class Sentences {
    /** The section "Terms", and what is said of all calls: no promise of its own. */
    static final int TERMS = 0;
    static final int PROMISES = 51;

    /** What is done to a new object ahead of a call. */
    interface Setup {
        void on(PlaceMender x);
    }

    interface Call {
        long on(PlaceMender x);
    }

    private final Check check;
    private final Map<Integer, String> texts = new TreeMap<>();
    private final Map<Integer, BitSet> tested = new TreeMap<>();
    private String now = "";

    Sentences(Check check, String document) {
        this.check = check;
        String terms = between(document, "## Terms", "## Promise 1:").replaceAll("(?m)^Ahead of the calls .*$", "")
                .replaceAll("(?m)^```.*$", "");
        put(TERMS, terms + between(document, "An object is used", "## The public face"));
        Matcher m = Pattern.compile("(?m)^## Promise (\\d+): .*\\n\\n`[^`]*`: (.*)$").matcher(document);
        while (m.find()) {
            put(Integer.parseInt(m.group(1)), m.group(2));
        }
        check.same("sections of the document", texts.size(), PROMISES + 1);
    }

    private void put(int section, String text) {
        texts.put(section, text.replaceAll("\\s+", " ").trim());
        tested.put(section, new BitSet());
    }

    private static String between(String document, String from, String to) {
        int at = document.indexOf(from);
        int end = document.indexOf(to);
        return at < 0 || end < at ? "" : document.substring(at, end).replace(from.startsWith("#") ? from : "", "");
    }

    /** The tests that follow are about these words of a promise. */
    void says(int promise, String words) {
        now = (promise == TERMS ? "Terms" : "promise " + promise) + ", \"" + words + "\": ";
        String text = texts.getOrDefault(promise, "");
        int at = text.indexOf(words);
        check.holds(now + "the document says so", at >= 0);
        for (; at >= 0; at = text.indexOf(words, at + 1)) {
            tested.get(promise).set(at, at + words.length());
        }
    }

    void due(String call, long got, long want) {
        check.same(now + call, got, want);
    }

    void same(String call, String got, String want) {
        check.holds(now + call + " is " + got + ", due is " + want, got.equals(want));
    }

    /** A call answers by a code, and all is behind it as if it hadn't been made. */
    void refused(Setup setup, String call, long code, Call asked) {
        alike(call + " changes nothing", x -> {
            setup.on(x);
            due(call, asked.on(x), code);
        }, setup);
    }

    /** Two ways lead to the same: all that can be seen, to be gone on from, to be undone. */
    void alike(String what, Setup one, Setup other) {
        check.holds(now + what, Calls.surface(made(one)).equals(Calls.surface(made(other))));
        check.holds(now + what + ", going on", Calls.onwards(made(one)).equals(Calls.onwards(made(other))));
        check.holds(now + what + ", going back", Calls.backwards(made(one)).equals(Calls.backwards(made(other))));
    }

    static PlaceMender made(Setup setup) {
        PlaceMender x = new PlaceMender();
        setup.on(x);
        return x;
    }

    /** Every word of the document stands in a sentence that a test has named. */
    void checkAllTested() {
        for (int section : texts.keySet()) {
            String text = texts.get(section);
            StringBuilder left = new StringBuilder();
            for (int i = 0; i < text.length(); i++) {
                boolean open = Character.isLetterOrDigit(text.charAt(i)) && !tested.get(section).get(i);
                left.append(open ? text.charAt(i) : ' ');
            }
            String words = left.toString().replaceAll("\\s+", " ").trim();
            check.holds("section " + section + " has no test for: " + words, words.isEmpty());
        }
    }
}
