import java.util.Arrays;

/** Each promise of the document by itself: ordinary calls, the edges that it names, and wrong numbers. */
public final class Promises {
    private static final int NONE = PlaceMender.NONE;
    private static final int NO_SUCH = -2;
    private static final int BAD_NUMBER = -3;
    private static final int NOT_NOW = -5;

    // four rows, none behind the one that it was behind: one ring 0, 1, 3, 2 of all
    private static final String FOUR_OLD = "abcdefghijklmnop";
    private static final String FOUR_NEW = "efghmnopabcdijkl";

    private final Check check = new Check();
    private int promise = 0;

    public static void main(String[] args) {
        Promises p = new Promises();
        p.images();
        p.runs();
        p.commands();
        p.plan();
        p.device();
        p.paper();
        p.states();
        p.check.end();
    }

    private void due(String call, long got, long want) {
        check.same("promise " + promise + ": " + call, got, want);
    }

    // ---- helpers

    private static int feed(PlaceMender x, int... bytes) {
        int answer = 0;
        for (int at = 0; at < bytes.length; at += 20) {
            int[] words = new int[5];
            for (int i = 0; i < 20; i++) {
                words[i / 4] = words[i / 4] << 8 | (at + i < bytes.length ? bytes[at + i] : 0);
            }
            answer = x.feed(words[0], words[1], words[2], words[3], words[4]);
        }
        return answer;
    }

    private static int[] cells(String text) {
        return text.chars().toArray();
    }

    private static void setOld(PlaceMender x, String text) {
        feed(x, cells(text));
        x.old(text.length());
    }

    private static void setNew(PlaceMender x, String text) {
        feed(x, cells(text));
        x.fresh(text.length());
    }

    private static PlaceMender with(String old, String fresh) {
        PlaceMender x = new PlaceMender();
        setOld(x, old);
        setNew(x, fresh);
        return x;
    }

    private static int load(PlaceMender x, int... bytes) {
        feed(x, bytes);
        return x.load(bytes.length);
    }

    /** A device whose flash has the cells of a text, 255 behind them. */
    private static PlaceMender burnt(String text) {
        PlaceMender x = new PlaceMender();
        setOld(x, text);
        x.burn();
        return x;
    }

    private static String flash(PlaceMender x, int from, int to) {
        StringBuilder text = new StringBuilder();
        for (int i = from; i < to; i++) {
            text.append((char) x.cell(2, i));
        }
        return text.toString();
    }

    private void flashIs(PlaceMender x, String want) {
        String got = flash(x, 0, want.length());
        check.holds("promise " + promise + ": flash is " + want + ", but " + got, got.equals(want));
    }

    // ---- 1 to 6

    private void images() {
        newObject();
        feeding();
        takingImages();
        cellsAndTerms();
    }

    private void newObject() {
        promise = 1;
        PlaceMender x = new PlaceMender();
        due("count(0)", x.count(0), 0);
        due("count(1)", x.count(1), 0);
        for (int i = 0; i < 40; i++) {
            due("cell(2, " + i + ")", x.cell(2, i), 255);
            due("cell(3, " + i + ")", x.cell(3, i), i < 20 ? 255 : NONE);
        }
        int[] first = {0, 0, 3, 0, 0, 8, 0, 0, 1, NONE, 0, 0, NONE};
        for (int what = 0; what < first.length; what++) {
            due("count(" + what + ")", x.count(what), first[what]);
        }
        due("NONE", NONE, -1);
    }

    private void feeding() {
        promise = 2;
        PlaceMender x = new PlaceMender();
        due("feed", x.feed(0x01020304, 0xfffefdfc, 0x80000000, 0, 5), 20);
        due("old(20)", x.old(20), 20);
        int[] want = {1, 2, 3, 4, 255, 254, 253, 252, 128, 0, 0, 0, 0, 0, 0, 0, 0, 0, 0, 5};
        for (int i = 0; i < want.length; i++) {
            due("cell(0, " + i + ")", x.cell(0, i), want[i]);
        }
        for (int n = 1; n <= 8; n++) {
            due("feed " + n, x.feed(n << 24, 0, 0, 0, 0), 20 * n);
        }
        due("feed 9", x.feed(9, 9, 9, 9, 9), NOT_NOW);
        due("count(11)", x.count(11), 160);
        due("old(40)", x.old(40), 40);
        due("first of the first feed", x.cell(0, 0), 1);
        due("first of the second feed", x.cell(0, 20), 2);
    }

    private void takingImages() {
        promise = 3;
        PlaceMender x = new PlaceMender();
        due("old(1) of nothing", x.old(1), BAD_NUMBER);
        due("old(0) of nothing", x.old(0), 0);
        feed(x, 1, 2, 3);
        due("old(-1)", x.old(-1), BAD_NUMBER);
        due("old(21)", x.old(21), BAD_NUMBER);
        due("the tape stays", x.count(11), 20);
        due("old(3)", x.old(3), 3);
        due("the tape is empty", x.count(11), 0);
        due("count(0)", x.count(0), 3);
        due("cell(0, 2)", x.cell(0, 2), 3);
        feed(x, new int[60]);
        due("old(41)", x.old(41), BAD_NUMBER);
        due("old(40)", x.old(40), 40);
        feed(x, 7);
        due("old(0)", x.old(0), 0);
        due("count(0)", x.count(0), 0);
        due("the tape is empty", x.count(11), 0);
        promise = 4;
        feed(x, 9, 8, 7);
        due("fresh(-1)", x.fresh(-1), BAD_NUMBER);
        due("fresh(21)", x.fresh(21), BAD_NUMBER);
        due("fresh(2)", x.fresh(2), 2);
        due("count(1)", x.count(1), 2);
        due("cell(1, 1)", x.cell(1, 1), 8);
        due("old stays", x.count(0), 0);
        feed(x, new int[60]);
        due("fresh(41)", x.fresh(41), BAD_NUMBER);
        due("fresh(40)", x.fresh(40), 40);
        due("the tape is empty", x.count(11), 0);
    }

    private void cellsAndTerms() {
        promise = 5;
        PlaceMender x = with("abc", "de");
        due("cell(0, 0)", x.cell(0, 0), 'a');
        due("cell(0, 2)", x.cell(0, 2), 'c');
        due("cell(0, 3)", x.cell(0, 3), NONE);
        due("cell(1, 1)", x.cell(1, 1), 'e');
        due("cell(1, 2)", x.cell(1, 2), NONE);
        due("cell(1, -1)", x.cell(1, -1), NONE);
        due("cell(2, 40)", x.cell(2, 40), NONE);
        due("cell(3, 20)", x.cell(3, 20), NONE);
        due("cell(-1, 0)", x.cell(-1, 0), NO_SUCH);
        due("cell(4, -1)", x.cell(4, -1), NO_SUCH);
        promise = 6;
        int[][] ranges = {{3, 8, 3}, {0, 2, 0}, {0, 2, 0}, {0, 20, 8}};
        for (int what = 0; what < 4; what++) {
            int low = ranges[what][0];
            int high = ranges[what][1];
            due("below", x.terms(what, low - 1), BAD_NUMBER);
            due("above", x.terms(what, high + 1), BAD_NUMBER);
            due("the first", x.terms(what, high), ranges[what][2]);
            due("what it was", x.terms(what, low), high);
            due("count", x.count(2 + what), low);
        }
        due("terms(4, 0)", x.terms(4, 0), NO_SUCH);
        due("terms(-1, 99)", x.terms(-1, 99), NO_SUCH);
    }

    // ---- 7 to 12

    private void runs() {
        suffixes();
        longestRuns();
        leastPatch();
    }

    private void suffixes() {
        PlaceMender x = with("banana", "");
        int[] order = {5, 3, 1, 0, 4, 2};
        int[] alike = {1, 3, 0, 0, 2};
        promise = 7;
        for (int i = 0; i < 6; i++) {
            due("suffix(" + i + ")", x.suffix(i), order[i]);
        }
        due("suffix(6)", x.suffix(6), NONE);
        due("suffix(-1)", x.suffix(-1), NONE);
        promise = 8;
        for (int i = 0; i < 5; i++) {
            due("shared(" + i + ")", x.shared(i), alike[i]);
        }
        due("shared(5)", x.shared(5), NONE);
        due("shared(-1)", x.shared(-1), NONE);
        promise = 9;
        int[] unlike = {BAD_NUMBER, 3, 3, 3, 3, 2, 1, 0};
        for (int n = 0; n < unlike.length; n++) {
            due("unlike(" + n + ")", x.unlike(n), unlike[n]);
        }
        due("unlike(40)", x.unlike(40), 0);
        due("unlike(41)", x.unlike(41), BAD_NUMBER);
        promise = 7;
        feed(x, 200, 100, 0);
        x.old(3);
        due("the greatest cell last", x.suffix(2), 0);
        due("the least cell first", x.suffix(0), 2);
        feed(x, new int[40]);
        x.old(40);
        due("the shortest of like ones first", x.suffix(0), 39);
        due("the longest last", x.suffix(39), 0);
        promise = 8;
        due("shared(38)", x.shared(38), 39);
        promise = 9;
        due("unlike(40)", x.unlike(40), 1);
        due("unlike(1)", x.unlike(1), 1);
    }

    private void longestRuns() {
        promise = 10;
        PlaceMender x = with("abxxabyyab", "ab?ab??zab");
        // at 3: 0, 4 and 8 have it
        int[] byChoice = {0, 8, 4};
        for (int choice = 0; choice < 3; choice++) {
            x.terms(1, choice);
            due("run(3, 0)", x.run(3, 0), 2);
            due("run(3, 1) by " + choice, x.run(3, 1), byChoice[choice]);
            due("run(3, 2)", x.run(3, 2), 3);
        }
        due("run(2, 0)", x.run(2, 0), 0);
        due("run(2, 1)", x.run(2, 1), NONE);
        due("run(2, 2)", x.run(2, 2), 0);
        due("run(4, 2): b alone is longest thrice", x.run(4, 2), 3);
        due("run(10, 0)", x.run(10, 0), NO_SUCH);
        due("run(-1, 0)", x.run(-1, 0), NO_SUCH);
        due("run(0, 3)", x.run(0, 3), NO_SUCH);
        due("run(0, -1)", x.run(0, -1), NO_SUCH);
        setNew(x, "??ab");
        due("of two as near the lower", x.run(2, 1), 0);
        promise = 11;
        x = with("abcdeabc", "?abcdabc");
        due("widest(0)", x.widest(0), 4);
        due("widest(1)", x.widest(1), 1);
        due("widest(2)", x.widest(2), 0);
        setNew(x, "?abc?abc");
        x.terms(1, 1);
        due("the first of like ones", x.widest(1), 1);
        due("f by choice", x.widest(2), 5);
        setNew(x, "???");
        due("widest(0)", x.widest(0), 0);
        due("widest(1)", x.widest(1), NONE);
        due("widest(2)", x.widest(2), NONE);
        due("widest(3)", x.widest(3), NO_SUCH);
        due("widest(-1)", x.widest(-1), NO_SUCH);
    }

    private void leastPatch() {
        promise = 12;
        due("nothing", new PlaceMender().least(), 1);
        due("sent alone", with("", "abc").least(), 1 + 3 + 3);
        due("a stay", with("abcdefgh", "abcdefgh").least(), 1);
        due("stay, add, copy", with("abcdefgh", "abcdXefgh").least(), 1 + 4 + 4);
        PlaceMender x = with("xabcdexdefg", "abcdefg");
        due("two copies, one shorter than longest", x.least(), 1 + 4 + 4);
        due("by longest one more", x.plan(3), 1 + 4 + 3 + 2);
        x.terms(0, 4);
        due("none shorter than least", x.least(), 1 + 4 + 3 + 2);
        x = with("abcdefghij", "abcXYcdefghij");
        due("a stay that is followed by an add", x.least(), 1 + 5 + 4);
        x = with("abcdeabcX", "?????abcde");
        due("an add takes cells of a run too, if it is cheaper", x.least(), 1 + 3 + 5 + 4);
        x = with("Xabcdefg", "?bcd?");
        due("one add in place of two and a copy", x.least(), 1 + 3 + 5);
    }

    // ---- 13 to 18

    private void commands() {
        commandList();
        mustBeAhead();
        ringsOfCommands();
        fewestOut();
    }

    private void commandList() {
        PlaceMender x = with("abcdefghijkl", "abcXYijkdefZ");
        int[][] want = {{2, 0, 0, 3, 0}, {0, 3, NONE, 2, 0}, {1, 5, 8, 3, 0}, {1, 8, 3, 3, 0}, {0, 11, NONE, 1, 0}};
        promise = 13;
        due("commands()", x.commands(), want.length);
        due("none", new PlaceMender().commands(), 0);
        promise = 14;
        for (int k = 0; k < want.length; k++) {
            for (int what = 0; what < 4; what++) {
                due("command(" + k + ", " + what + ")", x.command(k, what), want[k][what]);
            }
        }
        due("command(5, 0)", x.command(5, 0), NO_SUCH);
        due("command(-1, 0)", x.command(-1, 0), NO_SUCH);
        due("command(0, 5)", x.command(0, 5), NO_SUCH);
        due("command(0, -1)", x.command(0, -1), NO_SUCH);
        due("one is saved", x.command(2, 4) + x.command(3, 4), 1);
        x.terms(3, 0);
        due("one is sent", x.command(2, 4) + x.command(3, 4), 2);
        due("an add isn't", x.command(1, 4), 0);
        due("a stay isn't", x.command(0, 4), 0);
        promise = 13;
        x.terms(0, 4);
        due("one add of all", x.commands(), 1);
        due("longest that is least is enough", with("abcd", "Xabc").commands(), 2);
    }

    private void mustBeAhead() {
        promise = 15;
        // 0 copies 4..7, 1 adds 4..5, 2 copies 0..2 to 6..8, 3 stays at 9..11
        PlaceMender x = with("abcdefghijkl", "efghXYabcjkl");
        int[][] want = {{NO_SUCH, 1, 1, 0}, {0, NO_SUCH, 0, 0}, {1, 0, NO_SUCH, 0}, {0, 0, 0, NO_SUCH}};
        for (int a = 0; a < 4; a++) {
            for (int b = 0; b < 4; b++) {
                due("ahead(" + a + ", " + b + ")", x.ahead(a, b), want[a][b]);
            }
        }
        due("ahead(0, 4)", x.ahead(0, 4), NO_SUCH);
        due("ahead(-1, 0)", x.ahead(-1, 0), NO_SUCH);
        x = with("abcdefgh", "XXabcdgh");
        due("none reads what a stay keeps", x.ahead(1, 0), 1);
    }

    private void ringsOfCommands() {
        PlaceMender x = with(FOUR_OLD, FOUR_NEW);
        promise = 16;
        due("ringed()", x.ringed(), 15);
        due("none", with("abcdef", "Xabcdef").ringed(), 0);
        due("of four two", with("abcdefghijklmnop", "efghabcdXmnoXXXX").ringed(), 3);
        promise = 17;
        int[][] rows = {{0, 1, 3, 2}, {1, 3, 2, 0}, {2, 0, 1, 3}, {3, 2, 0, 1}};
        for (int k = 0; k < 4; k++) {
            due("ring(" + k + ", NONE)", x.ring(k, NONE), 4);
            for (int i = 0; i < 4; i++) {
                due("ring(" + k + ", " + i + ")", x.ring(k, i), rows[k][i]);
            }
            due("not so many", x.ring(k, 4), NONE);
        }
        due("ring(4, 0)", x.ring(4, 0), NO_SUCH);
        due("ring(-1, -2)", x.ring(-1, -2), NO_SUCH);
        due("ring(0, -2)", x.ring(0, -2), BAD_NUMBER);
        // a longer script was there: what it told leads nowhere now
        setNew(x, "efghXabcdXXXXXXX");
        due("an add is in none", x.ring(1, NONE), NONE);
        due("in none, below NONE", x.ring(1, -2), BAD_NUMBER);
        shortestOfTwo();
    }

    private void shortestOfTwo() {
        PlaceMender x = with("abcdefghijkl", "ghijklabcdef");
        due("two halves", x.ring(1, NONE), 2);
        // 0 reads what 1 and 3 write, each of these what 0 writes
        x = with("abcdefghijklmnopqrst", "ijklmnopabcQefghRSTU");
        due("commands", x.commands(), 5);
        due("the least row of as short ones", x.ring(0, 1), 1);
        due("as short", x.ring(0, NONE), 2);
        due("from the other one on", x.ring(3, 1), 0);
    }

    private void fewestOut() {
        promise = 18;
        int[][] want = {{0, 0, 0, 0}, {1, 1, 4, 1}, {1, 1, 3, 2}, {2, 5, 7, 6}};
        PlaceMender[] all = {
            with("abcdef", "Xabcdef"), with(FOUR_OLD, FOUR_NEW), with("abcdefg", "defgabc"),
            with("abcdefghijklmno", "defgabclmnohijk")
        };
        for (int i = 0; i < all.length; i++) {
            int[] got = new int[4];
            for (int what = 0; what < 4; what++) {
                got[what] = all[i].fewest(what);
            }
            check.holds("promise 18: " + i + " " + Arrays.toString(got), Arrays.equals(got, want[i]));
        }
        due("fewest(4)", all[0].fewest(4), NO_SUCH);
        due("fewest(-1)", all[0].fewest(-1), NO_SUCH);
    }

    // ---- 19 to 27

    private void plan() {
        actsOfPlan();
        patchBytes();
        planRules();
        budgets();
        shares();
    }

    private void actsIs(PlaceMender x, int[][] want) {
        due("acts()", x.acts(), want.length);
        for (int i = 0; i < want.length; i++) {
            for (int what = 0; what < 3; what++) {
                due("act(" + i + ", " + what + ")", x.act(i, what), want[i][what]);
            }
        }
    }

    private void actsOfPlan() {
        promise = 19;
        due("none", new PlaceMender().acts(), 0);
        due("a stay is none", with("abc", "abc").acts(), 0);
        PlaceMender x = with(FOUR_OLD, FOUR_NEW);
        promise = 20;
        actsIs(x, new int[][] {{1, 0, 0}, {2, 1, NONE}, {2, 3, NONE}, {2, 2, NONE}, {3, 0, 0}});
        due("act(5, 0)", x.act(5, 0), NO_SUCH);
        due("act(-1, 0)", x.act(-1, 0), NO_SUCH);
        due("act(0, 3)", x.act(0, 3), NO_SUCH);
        due("act(0, -1)", x.act(0, -1), NO_SUCH);
        promise = 21;
        int[] want = {1, 0, 4, 1 + 5 * 4};
        for (int what = 0; what < 4; what++) {
            due("plan(" + what + ")", x.plan(what), want[what]);
        }
        due("plan(4)", x.plan(4), NO_SUCH);
        due("plan(-1)", x.plan(-1), NO_SUCH);
        x.terms(3, 3);
        promise = 20;
        actsIs(x, new int[][] {{2, 1, NONE}, {2, 3, NONE}, {2, 2, NONE}, {4, 0, NONE}});
        promise = 21;
        want = new int[] {0, 1, 0, 1 + 3 * 4 + 3 + 4};
        for (int what = 0; what < 4; what++) {
            due("plan(" + what + ") without stash", x.plan(what), want[what]);
        }
        promise = 14;
        due("command(0, 4)", x.command(0, 4), 2);
    }

    private void patchBytes() {
        promise = 22;
        PlaceMender x = with("abcdefghij", "defgabcXij?");
        int[] want = {11, 4, 7, 4, 'X', 'i', 'j', '?', 1, 0, 3, 0, 2, 0, 3, 4, 3, 4, 0, 3};
        for (int i = 0; i < want.length; i++) {
            due("patch(" + i + ")", x.patch(i), want[i]);
        }
        due("patch(20)", x.patch(20), NONE);
        due("patch(-1)", x.patch(-1), NONE);
        promise = 21;
        due("size", x.plan(3), want.length);
    }

    private void planRules() {
        // two rings: 4 and 3 cells; 3 and 4 cells
        PlaceMender x = with("abcdefghijklmno", "defgabclmnohijk");
        promise = 20;
        actsIs(x, new int[][] {{1, 1, 0}, {2, 0, NONE}, {3, 1, 0}, {1, 2, 0}, {2, 3, NONE}, {3, 2, 0}});
        x.terms(2, 2);
        actsIs(x, new int[][] {{1, 0, 0}, {2, 1, NONE}, {3, 0, 0}, {1, 2, 0}, {2, 3, NONE}, {3, 2, 0}});
        promise = 21;
        due("its stash is free again", x.plan(2), 4);
        // 0 must be ahead of 1, 2 and 3; each of 1 and 3 of 0; none of the last, which is done first
        x = with("abcdefghijklmnopqrst", "ijklmnopabcQefghRSTU");
        promise = 20;
        due("by the fewest cells the 3 of command 1", x.act(1, 1), 1);
        x.terms(2, 1);
        due("by the most behind it the 8 of command 0", x.act(1, 1), 0);
        x.terms(3, 7);
        due("if there is no place for it another one", x.act(1, 1), 1);
        promise = 21;
        due("two saved at once", x.plan(0), 2);
        due("their cells", x.plan(2), 7);
        x.terms(3, 6);
        due("one saved, one sent", x.plan(0), 1);
        due("one saved, one sent", x.plan(1), 1);
    }

    private void budgets() {
        promise = 23;
        PlaceMender x = with(FOUR_OLD, FOUR_NEW);
        due("needs()", x.needs(), 4);
        due("without rings", with("abc", "Xabc").needs(), 0);
        due("without cells", new PlaceMender().needs(), 0);
        String half = "abcdefghijklmnopqrst";
        String other = "ABCDEFGHIJKLMNOPQRST";
        due("two halves", with(half + other, other + half).needs(), 20);
        PlaceMender y = with("0123456789:;<=>?@ABCDEFGHIJKLMNOPQRSTUVW", "6789:;@ABCDEFGHOPQRSTUV345689:;<=>?23456");
        y.terms(2, 2);
        due("too many saved at once", y.needs(), NONE);
        promise = 24;
        due("sized(3)", x.sized(3), 20);
        due("sized(4)", x.sized(4), 21);
        due("sized(20)", x.sized(20), 21);
        due("sized(21)", x.sized(21), BAD_NUMBER);
        due("sized(-1)", x.sized(-1), BAD_NUMBER);
        due("the budget stays", x.count(5), 8);
        due("the plan stays", x.plan(3), 21);
        promise = 25;
        due("turned()", x.turned(), 21);
        x = with("abcdefgh", "efgh");
        due("plan(3)", x.plan(3), 5);
        due("turned(): efgh to 4, abcd sent", x.turned(), 1 + 4 + 3 + 4);
        due("the plan stays", x.plan(3), 5);
        promise = 26;
        x = with("abcXabc", "????abc");
        due("the nearest is a stay", x.best(1), 1);
        due("any rule is as good", x.best(0), 0);
        x = with("abcXabcXabc", "????abc");
        due("only the nearest is a stay", x.best(1), 2);
        due("best(2)", x.best(2), NO_SUCH);
        due("best(-1)", x.best(-1), NO_SUCH);
        due("the choice stays", x.count(3), 0);
        // by the fewest cells two are saved, by the most behind it one
        x = with("abcdefghijklmnopqrst", "ijklmnopabcQefghRSTU");
        due("sized by rule 0", x.plan(3), 1 + 2 * 8 + 4 + 4 + 7);
        due("best rule", x.best(0), 1);
    }

    private void shares() {
        promise = 27;
        PlaceMender x = with("abcdefghijkl", "abcXYijkdefZ");
        int[] cells = {3, 6, 3};
        for (int what = 0; what < 3; what++) {
            due("share(" + what + ")", x.share(what), Float.floatToIntBits(cells[what] / 12f));
        }
        x.terms(3, 0);
        due("a copy that is sent", x.share(1), Float.floatToIntBits(3 / 12f));
        due("is sent", x.share(2), Float.floatToIntBits(6 / 12f));
        due("share(3)", x.share(3), NO_SUCH);
        due("share(-1)", x.share(-1), NO_SUCH);
        due("without cells", new PlaceMender().share(2), 0);
        for (int all = 3; all <= 40; all++) {
            for (int part = 3; part <= all; part++) {
                setOld(x, "abcdefghijklmnopqrstuvwxyzABCDEFGHIJKLMN".substring(0, part));
                setNew(x, "abcdefghijklmnopqrstuvwxyzABCDEFGHIJKLMN".substring(0, part)
                        + "?".repeat(all - part));
                due(part + " of " + all, x.share(0), Float.floatToIntBits((float) part / all));
                due(all - part + " of " + all, x.share(2), Float.floatToIntBits((float) (all - part) / all));
            }
        }
    }

    // ---- 28 to 43

    private void device() {
        burning();
        takingPlans();
        loadingFaults();
        stepsOfActs();
        mostSteps();
        going();
        cutting();
        booting();
        forgetting();
        spoilingAndDigests();
        undoing();
        stashOfStart();
        fitting();
    }

    private void burning() {
        promise = 28;
        PlaceMender x = burnt("abcdefgh");
        due("cell(2, 7)", x.cell(2, 7), 'h');
        due("cell(2, 8)", x.cell(2, 8), 255);
        load(x, 8, 1, 0, 4, 2, 2, 4, 0, 4);
        x.go(1);
        x.cut(2, 1);
        x.forget();
        due("burn()", x.burn(), 0);
        int[] want = {8, 0, 3, 0, 0, 8, 0, 0, 1, NONE};
        for (int what = 0; what < want.length; what++) {
            due("count(" + what + ")", x.count(what), want[what]);
        }
        due("the stash", x.cell(3, 2), 255);
        due("steps()", x.steps(), 0);
        flashIs(x, "abcdefgh");
        due("start is as it is then", x.fits(2), 1);
        due("due(0, 0)", x.due(0, 0), x.digest(0));
        setOld(x, "xy");
        x.burn();
        due("255 behind it", x.cell(2, 2), 255);
    }

    private void takingPlans() {
        promise = 29;
        PlaceMender x = with(FOUR_OLD, FOUR_NEW);
        x.burn();
        due("take()", x.take(), 5);
        due("count(6)", x.count(6), 5);
        x.go(2);
        x.spoil(39, 7);
        due("take() again", x.take(), 5);
        due("from the first step on", x.count(7), 0);
        due("from what is there now", x.due(0, 9), x.digest(9));
        due("it fits", x.fits(0), 0);
        x.cut(2, 0);
        due("take() without power", x.take(), NOT_NOW);
        promise = 32;
        due("steps()", x.steps(), 5);
        due("steps() at first", new PlaceMender().steps(), 0);
    }

    private void faultIs(PlaceMender x, int fault, int place, int... bytes) {
        String told = Arrays.toString(bytes);
        promise = 30;
        due("load of " + told, load(x, bytes), -30 - fault);
        due("the tape is empty behind " + told, x.count(11), 0);
        promise = 31;
        due("fault(0) of " + told, x.fault(0), fault);
        due("fault(1) of " + told, x.fault(1), place);
    }

    private void loadingFaults() {
        promise = 31;
        PlaceMender x = new PlaceMender();
        due("fault(0) at first", x.fault(0), 0);
        due("fault(1) at first", x.fault(1), NONE);
        due("fault(2)", x.fault(2), NONE);
        due("fault(-1)", x.fault(-1), NONE);
        int[][] wrong = {
            {2, 0}, {3, 0, 41}, {1, 1, 8, 0}, {1, 1, 8, 5}, {2, 2, 8, 1}, {2, 3, 8, 2, 1}, {2, 4, 8, 3, 1, 1},
            {3, 2, 8, 1, 40}, {3, 3, 8, 1, 0, 0}, {3, 3, 8, 1, 0, 21}, {3, 3, 8, 1, 39, 2}, {3, 4, 8, 1, 0, 20, 1},
            {3, 4, 8, 1, 0, 1, 20}, {3, 2, 8, 2, 40}, {3, 3, 8, 2, 0, 40}, {3, 4, 8, 2, 0, 0, 0},
            {3, 4, 8, 2, 39, 0, 2}, {3, 4, 8, 2, 0, 39, 2}, {3, 4, 8, 2, 0, 0, 41}, {3, 2, 8, 3, 40},
            {3, 3, 8, 3, 0, 20}, {3, 4, 8, 3, 0, 0, 0}, {3, 4, 8, 3, 0, 19, 2}, {3, 4, 8, 3, 39, 0, 2},
            {3, 4, 8, 3, 0, 0, 21}, {3, 2, 8, 4, 40}, {3, 3, 8, 4, 0, 0}, {3, 3, 8, 4, 39, 2}, {2, 4, 8, 4, 0, 1},
            {2, 6, 8, 4, 0, 3, 1, 2}, {1, 5, 8, 2, 0, 1, 1, 9}, {3, 0, 255, 9}
        };
        for (int[] w : wrong) {
            faultIs(x, w[0], w[1], Arrays.copyOfRange(w, 2, w.length));
        }
        int[] many = new int[1 + 36 * 4 + 1];
        for (int i = 1; i < many.length; i += 4) {
            many[i] = 1;
            if (i + 2 < many.length) {
                many[i + 2] = 1;
            }
        }
        faultIs(x, 4, 145, many);
        many[145] = 5;
        faultIs(x, 1, 145, many);
        promise = 30;
        due("36 acts", load(x, Arrays.copyOf(many, 145)), 36);
        due("count(6)", x.count(6), 36);
        promise = 31;
        due("fault(0) behind a right one", x.fault(0), 0);
        due("fault(1) behind a right one", x.fault(1), NONE);
        loadRefused(x);
        loadEdges(x);
    }

    private void loadRefused(PlaceMender x) {
        promise = 30;
        feed(x, 41, 1);
        due("load(-1)", x.load(-1), BAD_NUMBER);
        due("load(21)", x.load(21), BAD_NUMBER);
        due("the tape stays", x.count(11), 20);
        promise = 31;
        due("that read no bytes", x.fault(0), 0);
        promise = 30;
        x.cut(0, 0);
        due("load(21) without power", x.load(21), BAD_NUMBER);
        due("load(1) without power", x.load(1), NOT_NOW);
        due("the tape stays", x.count(11), 20);
        x.boot();
        due("count(10)", x.count(10), 3);
        due("load(1)", x.load(1), -33);
        due("a refused one can't be undone", x.count(10), 3);
        due("the patch stays", x.steps(), 36);
    }

    private void loadEdges(PlaceMender x) {
        promise = 30;
        due("no acts", load(x, 40), 0);
        due("the greatest numbers", load(x, 0, 1, 20, 20, 0, 1, 39, 1, 19, 2, 0, 0, 40, 2, 39, 39, 1, 3, 20, 0, 20,
                3, 39, 19, 1, 4, 39, 1, 255), 1 + 1 + 10 + 1 + 5 + 1 + 1);
        int[] all = new int[44];
        Arrays.fill(all, 9);
        all[0] = 40;
        all[1] = 4;
        all[2] = 0;
        all[3] = 40;
        due("forty cells sent", load(x, all), 10);
        due("go(10)", x.go(10), 10);
        due("the last", x.cell(2, 39), 9);
        due("start is as it is now", load(x, 0), 0);
        due("due(0, 9)", x.due(0, 9), x.digest(9));
    }

    /** The longest patch there is: all cells are moved up by one, 36 times. */
    private void mostSteps() {
        int[] bytes = new int[1 + 36 * 4];
        for (int i = 1; i < bytes.length; i += 4) {
            bytes[i] = 2;
            bytes[i + 1] = 1;
            bytes[i + 3] = 39;
        }
        PlaceMender x = burnt("abcd");
        promise = 30;
        due("36 acts of ten blocks", load(x, bytes), 360);
        promise = 33;
        due("step(359, 0)", x.step(359, 0), 35);
        due("step(359, 1)", x.step(359, 1), 0);
        due("step(350, 1)", x.step(350, 1), 9);
        promise = 45;
        due("wear(9)", x.wear(9), 36);
        promise = 46;
        due("cuts(0)", x.cuts(0), 1440);
        due("cuts(1)", x.cuts(1), 1440);
        due("cuts(2)", x.cuts(2), 1440);
        promise = 47;
        due("twice(3, 2)", x.twice(3, 2), 360);
        promise = 34;
        due("go(359)", x.go(359), 359);
        due("go(400)", x.go(400), 1);
        flashIs(x, "a".repeat(37) + "bcd");
        promise = 41;
        due("due(360, 9)", x.due(360, 9), x.digest(9));
        due("due(361, 9)", x.due(361, 9), NO_SUCH);
        promise = 42;
        due("fits(1)", x.fits(1), 360);
    }

    private void stepsOfActs() {
        promise = 33;
        PlaceMender x = burnt("abcdefghijklmnop");
        // saved, moved up by two, moved down by two, unsaved over three blocks, sent
        load(x, 16, 1, 0, 6, 3, 2, 5, 3, 6, 2, 3, 5, 6, 3, 3, 3, 6, 4, 8, 4, 'i', 'j', 'k', 'l', 2, 0, 0, 5);
        int[][] want = {{0, NONE}, {1, 2}, {1, 1}, {2, 0}, {2, 1}, {2, 2}, {3, 0}, {3, 1}, {3, 2}, {4, 2}, {5, 0}, {5, 1}};
        due("steps()", x.steps(), want.length);
        for (int s = 0; s < want.length; s++) {
            due("step(" + s + ", 0)", x.step(s, 0), want[s][0]);
            due("step(" + s + ", 1)", x.step(s, 1), want[s][1]);
        }
        due("of a save", x.step(0, 2), NONE);
        due("other cells", x.step(1, 2), 1);
        due("in its own place", x.step(10, 2), 0);
        due("step(12, 0)", x.step(12, 0), NO_SUCH);
        due("step(-1, 0)", x.step(-1, 0), NO_SUCH);
        due("step(0, 3)", x.step(0, 3), NO_SUCH);
        due("step(0, -1)", x.step(0, -1), NO_SUCH);
        x.spoil(8, 1);
        x.spoil(9, 1);
        due("as due, not as it is", x.step(9, 2), x.due(9, 2) == x.due(10, 2) ? 0 : 1);
        promise = 45;
        int[] wear = {3, 4, 4, 0, 0, 0, 0, 0, 0, 0};
        for (int b = 0; b < 10; b++) {
            due("wear(" + b + ")", x.wear(b), wear[b]);
        }
        due("wear(10)", x.wear(10), NO_SUCH);
        due("wear(-1)", x.wear(-1), NO_SUCH);
    }

    private void going() {
        promise = 34;
        PlaceMender x = burnt("abcdefghijklmnop");
        due("go(1) of none", x.go(1), 0);
        load(x, 16, 2, 2, 0, 10);
        due("go(1)", x.go(1), 1);
        flashIs(x, "abcdefghghijmnop");
        due("go(1)", x.go(1), 1);
        flashIs(x, "abcdcdefghijmnop");
        due("go(400)", x.go(400), 1);
        flashIs(x, "ababcdefghijmnop");
        due("STEP", x.count(7), 3);
        due("go(1) of none left", x.go(1), 0);
        load(x, 16, 2, 0, 2, 10);
        due("go(2)", x.go(2), 2);
        flashIs(x, "abcdefghghijmnop");
        due("go(2)", x.go(2), 1);
        flashIs(x, "abcdefghijijmnop");
        load(x, 16, 1, 4, 5, 9, 4, 4, 2, 'X', 'Y', 3, 6, 10, 3);
        due("go(3)", x.go(3), 3);
        due("saved", x.cell(3, 9), 'e');
        due("saved", x.cell(3, 13), 'i');
        due("not saved", x.cell(3, 14), 255);
        flashIs(x, "abcdXYfgijijmnop");
        due("go(1)", x.go(1), 1);
        flashIs(x, "abcdXYfghjijmnop");
        due("go(0)", x.go(0), BAD_NUMBER);
        due("go(401)", x.go(401), BAD_NUMBER);
        load(x, 16, 2, 0, 4, 4);
        x.cut(0, 0);
        due("go(1) without power", x.go(1), NOT_NOW);
        due("go(0) without power", x.go(0), BAD_NUMBER);
    }

    private void cutting() {
        promise = 35;
        String[] behind = {"abcdefgh", "abcdefgh", "efg\377efgh", "efghefgh"};
        int[] journal = {NONE, NONE, 0, 0};
        for (int phase = 0; phase < 4; phase++) {
            PlaceMender x = burnt("abcdefgh");
            load(x, 8, 2, 0, 4, 4, 2, 4, 0, 4);
            due("cut(" + phase + ", 3)", x.cut(phase, 3), 0);
            flashIs(x, behind[phase]);
            due("count(9)", x.count(9), journal[phase]);
            due("count(8)", x.count(8), 0);
            due("count(7)", x.count(7), 0);
            due("cut again", x.cut(phase, 3), NOT_NOW);
        }
        for (int phase = 0; phase < 4; phase++) {
            for (int c = 0; c < 4; c++) {
                PlaceMender x = burnt("abcdefgh");
                load(x, 8, 1, 2, 2, 5);
                due("cut", x.cut(phase, c), 0);
                int saved = phase == 0 ? 0 : phase == 3 ? 2 : Math.min(c, 2);
                for (int i = 0; i < 3; i++) {
                    due("stash " + i + " of " + phase + ", " + c, x.cell(3, 5 + i), i < saved ? 'c' + i : 255);
                }
                due("count(9)", x.count(9), NONE);
                due("boot()", x.boot(), 0);
                due("it is done again", x.go(9), 1);
            }
        }
        PlaceMender x = burnt("abcdefgh");
        due("no step", x.cut(0, 0), NOT_NOW);
        due("cut(4, 0)", x.cut(4, 0), BAD_NUMBER);
        due("cut(-1, 0)", x.cut(-1, 0), BAD_NUMBER);
        due("cut(0, 4)", x.cut(0, 4), BAD_NUMBER);
        due("cut(0, -1)", x.cut(0, -1), BAD_NUMBER);
        load(x, 8, 2, 0, 4, 4);
        x.go(1);
        due("no step left", x.cut(0, 0), NOT_NOW);
    }

    private void booting() {
        promise = 37;
        int[] step = {0, 0, 1, 1};
        for (int phase = 0; phase < 4; phase++) {
            PlaceMender x = burnt("abcdefgh");
            load(x, 8, 2, 0, 2, 6);
            due("boot() with power", x.boot(), NOT_NOW);
            x.cut(phase, 1);
            due("boot() behind " + phase, x.boot(), step[phase]);
            due("count(7)", x.count(7), step[phase]);
            due("count(8)", x.count(8), 1);
            due("count(9)", x.count(9), NONE);
            x.go(400);
            flashIs(x, "cdefghgh");
        }
        PlaceMender x = burnt("abcdefgh");
        load(x, 8, 2, 0, 2, 6);
        x.cut(3, 0);
        x.spoil(1, 'X');
        due("boot()", x.boot(), 1);
        flashIs(x, "cdefefgh");
    }

    private void forgetting() {
        promise = 36;
        PlaceMender x = burnt("abcdefgh");
        load(x, 8, 2, 0, 2, 6);
        due("forget() with power", x.forget(), NOT_NOW);
        x.cut(2, 1);
        due("forget()", x.forget(), 0);
        due("count(7)", x.count(7), NONE);
        due("forget() again", x.forget(), NOT_NOW);
        promise = 37;
        x.spoil(7, 'X');
        int kept = x.count(10);
        due("boot() if none fits", x.boot(), NOT_NOW);
        due("the journal stays", x.count(9), 0);
        flashIs(x, "c\377\377\377efgX");
        due("not known", x.count(7), NONE);
        due("off", x.count(8), 0);
        due("nothing more can be undone", x.count(10), kept);
        x.spoil(7, 'h');
        due("boot() if one fits behind the journal", x.boot(), 1);
        flashIs(x, "cdefefgh");
        // steps that change nothing: the least that fits
        x = burnt("abcdefgh");
        load(x, 8, 2, 0, 0, 8, 2, 0, 4, 4);
        x.go(1);
        x.cut(1, 0);
        x.forget();
        due("the least that fits", x.boot(), 0);
    }

    private void spoilingAndDigests() {
        promise = 38;
        PlaceMender x = burnt("abcd");
        due("spoil(0, 0)", x.spoil(0, 0), 'a');
        due("spoil(0, 255)", x.spoil(0, 255), 0);
        due("spoil(39, 1)", x.spoil(39, 1), 255);
        due("cell(2, 39)", x.cell(2, 39), 1);
        due("spoil(40, 1)", x.spoil(40, 1), NO_SUCH);
        due("spoil(-1, 300)", x.spoil(-1, 300), NO_SUCH);
        due("spoil(0, 256)", x.spoil(0, 256), BAD_NUMBER);
        due("spoil(0, -1)", x.spoil(0, -1), BAD_NUMBER);
        promise = 40;
        for (int b = 0; b < 10; b++) {
            long word = 0;
            for (int i = 0; i < 4; i++) {
                word = 256 * word + x.cell(2, 4 * b + i);
            }
            due("digest(" + b + ")", x.digest(b), (word * 1664525 + 1013904223) % 4294967296L);
        }
        due("digest(10)", x.digest(10), NO_SUCH);
        due("digest(-1)", x.digest(-1), NO_SUCH);
        promise = 41;
        x = burnt("abcdefgh");
        load(x, 8, 2, 0, 4, 4, 2, 4, 0, 4);
        long before = x.digest(0);
        long behind = x.digest(1);
        due("due(0, 0)", x.due(0, 0), before);
        due("due(1, 0)", x.due(1, 0), behind);
        due("due(2, 1)", x.due(2, 1), behind);
        x.spoil(0, 9);
        due("from start on", x.due(0, 0), before);
        due("due(3, 0)", x.due(3, 0), NO_SUCH);
        due("due(-1, 0)", x.due(-1, 0), NO_SUCH);
        due("due(0, 10)", x.due(0, 10), NO_SUCH);
        due("due(0, -1)", x.due(0, -1), NO_SUCH);
    }

    private void undoing() {
        promise = 39;
        PlaceMender x = burnt("abcdefgh");
        due("undo(0)", x.undo(0), BAD_NUMBER);
        due("undo(2)", x.undo(2), BAD_NUMBER);
        load(x, 8, 1, 0, 4, 0, 2, 0, 4, 4, 3, 4, 0, 4);
        x.go(1);
        x.cut(2, 2);
        x.forget();
        x.boot();
        x.spoil(9, 9);
        due("count(10)", x.count(10), 7);
        due("undo(1): spoil", x.undo(1), 6);
        due("cell", x.cell(2, 9), 255);
        due("undo(1): boot", x.undo(1), 5);
        due("off", x.count(8), 0);
        due("the journal", x.count(9), 0);
        due("forgotten", x.count(7), NONE);
        flashIs(x, "ef\377\377efgh");
        due("boot again", x.boot(), 2);
        due("undo(2): forget too", x.undo(2), 4);
        due("known", x.count(7), 1);
        due("undo(2): cut and go", x.undo(2), 2);
        due("the stash", x.cell(3, 0), 255);
        due("undo(1): load", x.undo(1), 1);
        due("steps()", x.steps(), 0);
        due("undo(1): burn", x.undo(1), 0);
        due("flash", x.cell(2, 0), 255);
        due("start", x.fits(0), 0);
        due("undo(1)", x.undo(1), BAD_NUMBER);
        for (int i = 0; i < 15; i++) {
            x.spoil(0, i);
        }
        due("ten at most", x.count(10), 10);
        due("undo(11)", x.undo(11), BAD_NUMBER);
        due("undo(10)", x.undo(10), 0);
        due("the eldest are forgotten", x.cell(2, 0), 4);
        due("go(1) of none", x.go(1), 0);
        due("isn't undone", x.count(10), 0);
        x.take();
        due("take()", x.count(10), 1);
    }

    /** What a patch reads of the stash is due as it was when that patch was taken. */
    private void stashOfStart() {
        promise = 39;
        PlaceMender x = burnt("abcdefgh");
        load(x, 8, 1, 0, 4, 0);
        x.go(1);
        load(x, 8, 3, 8, 0, 4);
        long want = x.digest(0);
        due("due(1, 2)", x.due(1, 2), want);
        x.image(1);
        load(x, 8, 1, 4, 4, 0);
        x.go(1);
        load(x, 8, 3, 8, 0, 4);
        due("due(1, 2) of another start", x.due(1, 2), x.digest(1));
        x.image(0);
        x.undo(3);
        due("due(1, 2) undone", x.due(1, 2), want);
        due("fits(2) undone", x.fits(2), 1);
        x.go(1);
        due("digest(2)", x.digest(2), want);
        promise = 50;
        x.restore(0);
        due("due(1, 2) restored", x.due(1, 2), x.digest(1));
        x.restore(1);
        due("due(1, 2) restored", x.due(1, 2), want);
    }

    private void fitting() {
        promise = 42;
        PlaceMender x = burnt("abcdefgh");
        load(x, 8, 1, 0, 4, 0, 2, 0, 4, 4, 3, 4, 0, 4, 2, 4, 4, 4);
        due("0 and 1: the stash isn't needed ahead of 0 alone", x.fits(2), 1);
        due("fits(0)", x.fits(0), 0);
        x.go(1);
        due("both", x.fits(2), 2);
        due("the least", x.fits(0), 0);
        due("the greatest", x.fits(1), 1);
        x.go(2);
        due("behind the last 3 none is needed", x.fits(0), 3);
        due("the last step changes nothing", x.fits(1), 4);
        x.spoil(0, 0);
        due("none", x.fits(0), NONE);
        due("none", x.fits(1), NONE);
        due("none", x.fits(2), 0);
        due("fits(3)", x.fits(3), NO_SUCH);
        due("fits(-1)", x.fits(-1), NO_SUCH);
        x.burn();
        load(x, 8, 2, 0, 4, 4);
        x.cut(2, 2);
        due("the journal aside", x.fits(2), 0);
        neededCells();
        promise = 43;
        x = with("abcdefgh", "abXdefghYY");
        due("right() at first", x.right(), 0);
        x.burn();
        due("right()", x.right(), 7);
        x.take();
        x.go(400);
        due("right() behind all", x.right(), 10);
    }

    private void neededCells() {
        promise = 42;
        PlaceMender x = burnt("abcdefgh");
        // cells 0 to 3 come into the stash; only 2 and 3 are read, 2 behind another save
        load(x, 8, 1, 0, 4, 0, 1, 4, 1, 2, 3, 12, 2, 2);
        x.cut(1, 1);
        x.boot();
        due("what isn't read isn't needed", x.fits(2), 1);
        x.go(1);
        due("at 0 none is, at 1 the fourth", x.fits(1), 1);
        x.go(1);
        due("at 2 both are", x.fits(1), 2);
        due("all three", x.fits(2), 3);
        x.burn();
        // read across two blocks: behind the first block only the later cells are needed
        load(x, 8, 1, 0, 4, 0, 3, 14, 0, 4, 4, 14, 2, 255, 255, 4, 16, 2, 255, 255, 1, 4, 2, 0);
        x.go(6);
        due("as at the start, and with the other stash", x.fits(2), 3);
        for (int cell = 0; cell < 20; cell++) {
            x.burn();
            load(x, 8, 1, 0, 1, cell, 3, 12, cell, 1);
            due("needed at 1: " + cell, x.fits(2), 1);
            x.go(1);
            due("as due at 1: " + cell, x.fits(2), 2);
        }
    }

    // ---- 44 to 48

    private void paper() {
        hazards();
        cutsOnPaper();
    }

    private void hazards() {
        promise = 44;
        PlaceMender x = burnt("abcdefghijklmnop");
        due("hazard(0) of none", x.hazard(0), NONE);
        load(x, 8, 2, 4, 0, 4, 2, 0, 2, 6);
        due("hazard(0)", x.hazard(0), 1);
        due("hazard(1)", x.hazard(1), 4);
        load(x, 8, 2, 2, 0, 6);
        due("its own don't count", x.hazard(0), NONE);
        due("its own don't count", x.hazard(1), NONE);
        load(x, 8, 1, 0, 4, 0, 3, 8, 0, 4, 4, 4, 1, 9, 1, 0, 6, 0);
        due("a save reads too", x.hazard(0), 3);
        due("a save reads too", x.hazard(1), 4);
        load(x, 8, 1, 0, 4, 0, 1, 0, 4, 0, 3, 0, 0, 4);
        due("what a save writes is no flash, what an unsave reads neither", x.hazard(0), NONE);
        load(x, 8, 3, 8, 0, 4, 2, 0, 4, 4, 2, 20, 5, 7);
        due("an unsave writes", x.hazard(0), 2);
        due("the first along what it reads", x.hazard(1), 8);
        due("hazard(2)", x.hazard(2), NO_SUCH);
        due("hazard(-1)", x.hazard(-1), NO_SUCH);
        PlaceMender y = with(FOUR_OLD, FOUR_NEW);
        y.take();
        due("a plan has none", y.hazard(0), NONE);
    }

    private void cutsOnPaper() {
        promise = 46;
        PlaceMender x = burnt("abcdefgh");
        load(x, 8, 2, 0, 2, 6);
        int[] want = {8, 8, 8, 5};
        for (int what = 0; what < 4; what++) {
            due("cuts(" + what + ")", x.cuts(what), want[what]);
        }
        due("cuts(4)", x.cuts(4), NO_SUCH);
        due("cuts(-1)", x.cuts(-1), NO_SUCH);
        x.go(1);
        x.spoil(0, 0);
        due("from start, wherever it is", x.cuts(3), 5);
        flashIs(x, "\0def");
        promise = 48;
        int[][] odds = {{1, 1}, {1, 1}, {5, 8}};
        for (int what = 1; what < 4; what++) {
            due("odds(" + what + ", 0)", x.odds(what, 0), odds[what - 1][0]);
            due("odds(" + what + ", 1)", x.odds(what, 1), odds[what - 1][1]);
        }
        due("odds(0, 0)", x.odds(0, 0), NO_SUCH);
        due("odds(4, 0)", x.odds(4, 0), NO_SUCH);
        due("odds(1, 2)", x.odds(1, 2), NO_SUCH);
        due("odds(1, -1)", x.odds(1, -1), NO_SUCH);
        due("without cuts", new PlaceMender().odds(1, 0), NONE);
        due("without cuts, wrong", new PlaceMender().odds(1, 2), NO_SUCH);
        promise = 47;
        for (int phase = 0; phase < 4; phase++) {
            for (int other = 0; other < 4; other++) {
                due("twice(" + phase + ", " + other + ")", x.twice(phase, other), 2);
            }
        }
        due("twice(4, 0)", x.twice(4, 0), BAD_NUMBER);
        due("twice(0, 4)", x.twice(0, 4), BAD_NUMBER);
        due("twice(-1, 0)", x.twice(-1, 0), BAD_NUMBER);
        due("twice(0, -1)", x.twice(0, -1), BAD_NUMBER);
        due("without steps", new PlaceMender().twice(0, 0), 0);
        promise = 46;
        load(x, 8, 4, 0, 4, 1, 2, 3, 4);
        due("another patch", x.cuts(0), 4);
        due("what is sent may be sent again", x.cuts(3), 4);
        x.undo(1);
        due("the patch before it", x.cuts(3), 5);
    }

    // ---- 49 to 51

    private void states() {
        promise = 49;
        PlaceMender x = with(FOUR_OLD, FOUR_NEW);
        due("image(2)", x.image(2), NO_SUCH);
        due("image(-1)", x.image(-1), NO_SUCH);
        promise = 50;
        due("restore(0)", x.restore(0), NOT_NOW);
        due("restore(2)", x.restore(2), NO_SUCH);
        due("restore(-1)", x.restore(-1), NO_SUCH);
        x.terms(0, 4);
        x.terms(3, 5);
        x.burn();
        x.take();
        x.go(1);
        x.cut(2, 1);
        promise = 49;
        due("image(0)", x.image(0), 0);
        due("what was done can be undone still", x.count(10), 4);
        String torn = flash(x, 0, 16);
        x.boot();
        x.go(400);
        x.terms(0, 3);
        setOld(x, "x");
        setNew(x, "y");
        load(x, 41);
        feed(x, 1);
        promise = 50;
        due("restore(1)", x.restore(1), NOT_NOW);
        due("restore(0)", x.restore(0), 0);
        int[] want = {16, 16, 4, 0, 0, 5, 5, 1, 0, 1, 0, 20};
        for (int what = 0; what < want.length; what++) {
            due("count(" + what + ")", x.count(what), want[what]);
        }
        flashIs(x, torn);
        due("nothing can be undone", x.undo(1), BAD_NUMBER);
        due("the fault stays", x.fault(0), 3);
        due("the old image", x.suffix(3), 3);
        due("its plan", x.plan(3), 21);
        due("the stash", x.cell(3, 0), 'e');
        due("boot()", x.boot(), 2);
        due("go(400)", x.go(400), 3);
        due("right()", x.right(), 16);
        due("the image is as it was", x.restore(0), 0);
        flashIs(x, torn);
        promise = 51;
        x.forget();
        due("count(7)", x.count(7), NONE);
        due("count(10)", x.count(10), 1);
        due("count(12)", x.count(12), NONE);
        due("count(-1)", x.count(-1), NONE);
    }
}
