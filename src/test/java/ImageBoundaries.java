/** The boundaries that promises 1 to 12 name: the tape, images, terms, suffixes, runs. */
final class ImageBoundaries {
    private static final int NONE = PlaceMender.NONE;
    private static final int LEAST_INT = Integer.MIN_VALUE;
    private static final int MOST_INT = Integer.MAX_VALUE;
    private static final int[] NO_CELLS = {};

    private final Sentences book;

    ImageBoundaries(Sentences book) {
        this.book = book;
    }

    void all() {
        newObject();
        feed();
        fullTape();
        images(3, "The first n bytes of THE TAPE (which is empty then) are OLD: n.",
                "-3: n is below 0, above 40, above what there is (THE TAPE stays).");
        images(4, "NEW, so.", "NEW, so.");
        cell();
        terms();
        suffix();
        shared();
        unlike();
        run();
        widest();
        leastOfNothing();
        leastOfRuns();
    }

    private void newObject() {
        book.says(1, "No CELLS in OLD, NEW.");
        PlaceMender other = Calls.with("abc", "de");
        PlaceMender x = new PlaceMender();
        book.due("count(0)", x.count(0), 0);
        book.due("count(1)", x.count(1), 0);
        book.due("cell(0, 0)", x.cell(0, 0), NONE);
        book.due("cell(1, 0)", x.cell(1, 0), NONE);
        book.due("of another object", other.count(0), 3);
    }

    // ---- 2

    private void feed() {
        book.says(2, "Twenty bytes come behind those on THE TAPE, the highest of each int first: how many it has.");
        PlaceMender x = new PlaceMender();
        book.due("feed, the first", x.feed(LEAST_INT, MOST_INT, -1, 0, 1), 20);
        book.due("feed, the second", x.feed(2, 3, 4, 5, 6), 40);
        x.old(40);
        int[] want = {128, 0, 0, 0, 127, 255, 255, 255, 255, 255, 255, 255, 0, 0, 0, 0, 0, 0, 0, 1, 0, 0, 0, 2};
        for (int i = 0; i < want.length; i++) {
            book.due("byte " + i, x.cell(0, i), want[i]);
        }
        book.due("byte 39", x.cell(0, 39), 6);
    }

    private void fullTape() {
        book.says(2, "-5: it would have more than 160.");
        PlaceMender x = new PlaceMender();
        for (int n = 1; n <= 8; n++) {
            book.due("feed " + n, x.feed(n, n, n, n, n), 20 * n);
        }
        book.due("feed 9", x.feed(9, 9, 9, 9, 9), -5);
        book.due("how many it has", x.count(11), 160);
        book.refused(y -> Calls.feed(y, Calls.filled(160, 7)), "feed", -5, y -> y.feed(9, 9, 9, 9, 9));
        x.old(0);
        book.due("feed on what is empty again", x.feed(1, 1, 1, 1, 1), 20);
        // 160 bytes that are a patch: its last cell is the last byte of the tape
        int[] bytes = {40};
        for (int cells : new int[] {40, 40, 40, 27}) {
            bytes = Calls.joined(Calls.joined(bytes, 4, 0, cells), Calls.filled(cells, cells));
        }
        bytes[159] = 99;
        x = new PlaceMender();
        book.due("a patch of all bytes", Calls.load(x, bytes), 10 + 10 + 10 + 7);
        x.go(400);
        book.due("the last byte", x.cell(2, 26), 99);
    }

    // ---- 3, 4

    private static long take(PlaceMender x, int promise, int n) {
        return promise == 3 ? x.old(n) : x.fresh(n);
    }

    private void images(int promise, String taken, String refused) {
        int what = promise - 3;
        book.says(promise, taken);
        int[][] sizes = {{0, 0}, {0, 20}, {1, 20}, {19, 20}, {20, 20}, {21, 40}, {39, 40}, {40, 40}, {40, 160}};
        for (int[] size : sizes) {
            PlaceMender x = Calls.with("abc", "abc");
            Calls.feed(x, Calls.distinct(size[1]));
            book.due(size[0] + " of " + size[1], take(x, promise, size[0]), size[0]);
            book.due("cells of it", x.count(what), size[0]);
            book.due("cells of the other image", x.count(1 - what), 3);
            book.due("bytes on the tape", x.count(11), 0);
            book.due("the last", x.cell(what, size[0] - 1), size[0] - 1);
            book.due("behind the last", x.cell(what, size[0]), NONE);
        }
        takenAnew(what);
        book.says(promise, refused);
        int[][] wrong = {{-1, 0}, {-1, 20}, {LEAST_INT, 20}, {1, 0}, {21, 20}, {40, 20}, {41, 40}, {41, 60}, {41, 160},
            {160, 160}, {MOST_INT, 60}, {MOST_INT, 0}};
        for (int[] w : wrong) {
            book.refused(x -> {
                Calls.set(x, "abc", "def");
                Calls.feed(x, Calls.distinct(w[1]));
            }, w[0] + " of " + w[1], -3, x -> take(x, promise, w[0]));
        }
    }

    /** What was told of the cells that were there is told of those that are there then. */
    private void takenAnew(int what) {
        PlaceMender x = Calls.with("bca", "bca");
        book.due("suffix(0)", x.suffix(0), 2);
        book.due("commands()", x.commands() + x.plan(3), 2);
        if (what == 0) {
            Calls.setOld(x, Calls.cells("abc"));
            book.due("of another OLD, suffix(0)", x.suffix(0), 0);
            book.due("of another OLD, plan(3)", x.plan(3), 1 + 3 + 3);
            x.old(0);
            book.due("of no OLD, suffix(0)", x.suffix(0), NONE);
        } else {
            Calls.setNew(x, Calls.cells("abcd"));
            book.due("of another NEW, plan(3)", x.plan(3), 1 + 3 + 4);
            x.fresh(0);
            book.due("of no NEW, plan(3)", x.plan(3), 1);
        }
    }

    // ---- 5, 6

    private void cell() {
        book.says(5, "CELL i of OLD (what 0), NEW (1), FLASH (2), the STASH (3).");
        PlaceMender x = Calls.with(Calls.distinct(40), Calls.filled(40, 77));
        x.burn();
        Calls.load(x, 40, 1, 20, 20, 0, 4, 39, 1, 200);
        x.go(2);
        int[][] want = {{0, 0, 0}, {0, 39, 39}, {1, 0, 77}, {1, 39, 77}, {2, 0, 0}, {2, 38, 38}, {2, 39, 200},
            {3, 0, 20}, {3, 19, 39}};
        for (int[] w : want) {
            book.due("cell(" + w[0] + ", " + w[1] + ")", x.cell(w[0], w[1]), w[2]);
        }
        book.says(5, "NONE: not so many, i is below 0; -2: what.");
        int[] sizes = {40, 40, 40, 20};
        for (int what = 0; what < 4; what++) {
            for (int i : new int[] {sizes[what], -1, 160, LEAST_INT, MOST_INT}) {
                book.due("cell(" + what + ", " + i + ")", x.cell(what, i), NONE);
            }
        }
        PlaceMender y = Calls.with("abc", "d");
        book.due("behind three of OLD", y.cell(0, 3), NONE);
        book.due("behind one of NEW", y.cell(1, 1), NONE);
        for (int what : new int[] {-1, 4, LEAST_INT, MOST_INT}) {
            book.due("cell(" + what + ", 0)", x.cell(what, 0), -2);
            book.due("ahead of NONE: cell(" + what + ", -1)", x.cell(what, -1), -2);
            book.due("ahead of NONE: cell(" + what + ", 40)", x.cell(what, 40), -2);
        }
    }

    private void terms() {
        int[][] ranges = {{3, 8, 3}, {0, 2, 0}, {0, 2, 0}, {0, 20, 8}};
        book.says(6, "A TERM: what it was.");
        PlaceMender x = new PlaceMender();
        for (int what = 0; what < 4; what++) {
            int was = ranges[what][2];
            for (int v = ranges[what][0]; v <= ranges[what][1]; v++) {
                book.due("terms(" + what + ", " + v + ")", x.terms(what, v), was);
                book.due("count(" + (2 + what) + ")", x.count(2 + what), v);
                was = v;
            }
            book.due("the same again", x.terms(what, was), was);
        }
        book.says(6, "-2: what; -3.");
        for (int what = 0; what < 4; what++) {
            int term = what;
            for (int v : new int[] {ranges[what][0] - 1, ranges[what][1] + 1, LEAST_INT, MOST_INT}) {
                book.refused(y -> Calls.set(y, "abcdef", "defabc"), "terms(" + what + ", " + v + ")", -3,
                        y -> y.terms(term, v));
            }
        }
        for (int what : new int[] {-1, 4, LEAST_INT, MOST_INT}) {
            book.refused(y -> { }, "terms(" + what + ", 3)", -2, y -> y.terms(what, 3));
            book.refused(y -> { }, "told first: terms(" + what + ", 99)", -2, y -> y.terms(what, 99));
        }
    }

    // ---- 7 to 9

    private void suffix() {
        book.says(7, "Where the i-th SUFFIX of OLD (0 the first) begins.");
        book.due("of one", Calls.with("a", "").suffix(0), 0);
        PlaceMender x = Calls.with(Calls.filled(40, 5), NO_CELLS);
        for (int i = 0; i < 40; i++) {
            book.due("of forty like ones, " + i, x.suffix(i), 39 - i);
        }
        x = Calls.with(new int[] {128, 255, 0, 127}, NO_CELLS);
        int[] order = {2, 3, 0, 1};
        for (int i = 0; i < 4; i++) {
            book.due("of 128, 255, 0, 127, " + i, x.suffix(i), order[i]);
        }
        book.says(7, "NONE.");
        int[] sizes = {0, 1, 40};
        for (int size : sizes) {
            x = Calls.with(Calls.distinct(size), Calls.distinct(40));
            for (int i : new int[] {-1, size, LEAST_INT, MOST_INT}) {
                book.due("suffix(" + i + ") of " + size, x.suffix(i), NONE);
            }
        }
    }

    private void shared() {
        book.says(8, "How many CELLS, from their first ones on, the i-th SUFFIX and the next have in common.");
        PlaceMender x = Calls.with(Calls.filled(40, 5), NO_CELLS);
        for (int i = 0; i < 39; i++) {
            book.due("of forty like ones, " + i, x.shared(i), i + 1);
        }
        x = Calls.with(Calls.distinct(40), NO_CELLS);
        book.due("of unlike ones, the first", x.shared(0), 0);
        book.due("of unlike ones, the last", x.shared(38), 0);
        book.due("of two", Calls.with("ab", "").shared(0), 0);
        book.due("of two like ones", Calls.with("aa", "").shared(0), 1);
        book.says(8, "NONE: there aren't both.");
        int[] sizes = {0, 1, 2, 40};
        for (int size : sizes) {
            x = Calls.with(Calls.distinct(size), Calls.distinct(40));
            for (int i : new int[] {-1, size - 1, size, LEAST_INT, MOST_INT}) {
                book.due("shared(" + i + ") of " + size, x.shared(i), NONE);
            }
        }
    }

    private void unlike() {
        book.says(9, "How many unlike rows of n CELLS (1 to 40) there are in OLD.");
        int[] sizes = {0, 1, 2, 39, 40};
        for (int size : sizes) {
            PlaceMender unlike = Calls.with(Calls.distinct(size), Calls.distinct(40));
            PlaceMender like = Calls.with(Calls.filled(size, 5), Calls.distinct(40));
            for (int n = 1; n <= 40; n++) {
                book.due("rows of " + n + " of " + size, unlike.unlike(n), Math.max(0, size - n + 1));
                book.due("rows of " + n + " of " + size + " like ones", like.unlike(n), n <= size ? 1 : 0);
            }
        }
        book.says(9, "-3.");
        for (int n : new int[] {0, 41, -1, LEAST_INT, MOST_INT}) {
            book.refused(x -> Calls.set(x, "banana", ""), "unlike(" + n + ")", -3, x -> x.unlike(n));
            book.due("without cells", new PlaceMender().unlike(n), -3);
        }
    }

    // ---- 10, 11

    private void run() {
        book.says(10, "At a CELL j of NEW, what 0: LONGEST, 1: f by CHOICE (NONE: it is 0), "
                + "2: how many f have it (0: it is 0).");
        PlaceMender x = Calls.with(Calls.filled(40, 5), Calls.filled(40, 5));
        int[][] want = {{0, 40, 0, 1}, {20, 20, 0, 21}, {39, 1, 0, 40}};
        for (int[] w : want) {
            for (int what = 0; what < 3; what++) {
                book.due("run(" + w[0] + ", " + what + ")", x.run(w[0], what), w[what + 1]);
            }
        }
        x.terms(1, 1);
        book.due("the highest at 39", x.run(39, 1), 39);
        book.due("the highest at 20", x.run(20, 1), 20);
        PlaceMender[] none = {Calls.with("", "ab"), Calls.with("xyz", "ab")};
        for (PlaceMender y : none) {
            int[] zero = {0, NONE, 0};
            for (int what = 0; what < 3; what++) {
                book.due("of 0, first, " + what, y.run(0, what), zero[what]);
                book.due("of 0, last, " + what, y.run(1, what), zero[what]);
            }
        }
        PlaceMender both = Calls.with("abcabc", "abc?");
        book.due("two have it", both.run(0, 2), 2);
        book.due("none has it, asked then", both.run(3, 2), 0);
        book.due("up to the end of OLD", Calls.with("xxabc", "abcd").run(0, 0), 3);
        book.due("up to the end of NEW", Calls.with("abcd", "xxabc").run(2, 0), 3);
        book.says(10, "-2: j, what.");
        for (int j : new int[] {-1, 40, LEAST_INT, MOST_INT}) {
            book.due("run(" + j + ", 0)", x.run(j, 0), -2);
        }
        book.due("of a NEW without cells", Calls.with("abc", "").run(0, 0), -2);
        for (int what : new int[] {-1, 3, LEAST_INT, MOST_INT}) {
            book.due("run(0, " + what + ")", x.run(0, what), -2);
            book.due("ahead of NONE: run(0, " + what + ")", none[1].run(0, what), -2);
        }
    }

    private void widest() {
        book.says(11, "Of the CELLS of NEW that of the greatest LONGEST (the first such one), what 0: that "
                + "(0 without CELLS), 1: the CELL (NONE: it is 0), 2: f by CHOICE (so).");
        PlaceMender[] all = {
            new PlaceMender(), Calls.with("abc", ""), Calls.with("", "abc"), Calls.with("xyz", "abc"),
            Calls.with("xa", "ba"), Calls.with(Calls.distinct(40), Calls.distinct(40)),
            Calls.with("abcXabcd", "??abc?abc"), Calls.with("abcXbcde", "abc?bcde")
        };
        int[][] want = {{0, NONE, NONE}, {0, NONE, NONE}, {0, NONE, NONE}, {0, NONE, NONE}, {1, 1, 1}, {40, 0, 0},
            {3, 2, 0}, {4, 4, 4}};
        for (int i = 0; i < all.length; i++) {
            for (int what = 0; what < 3; what++) {
                book.due("widest(" + what + ") of " + i, all[i].widest(what), want[i][what]);
            }
        }
        all[6].terms(1, 1);
        book.due("f by another choice", all[6].widest(2), 4);
        book.says(11, "-2.");
        for (int what : new int[] {-1, 3, LEAST_INT, MOST_INT}) {
            book.due("widest(" + what + ")", all[5].widest(what), -2);
            book.due("ahead of NONE: widest(" + what + ")", all[0].widest(what), -2);
        }
    }

    // ---- 12

    private void leastOfNothing() {
        book.says(12, "The least SIZE of a PATCH that brings NEW about by any COPIES of RUNS");
        book.due("without cells", new PlaceMender().least(), 1);
        book.due("without cells of NEW", Calls.with("abc", "").least(), 1);
        book.due("forty in another place: two copies", Calls.with(Calls.distinct(40),
                Calls.joined(java.util.Arrays.copyOfRange(Calls.distinct(40), 20, 40), Calls.distinct(20))).least(), 9);
        book.says(12, "and ADDS (two are never next to one another), AHEAD and SAVING aside.");
        book.due("one sent", Calls.with("", "a").least(), 1 + 3 + 1);
        book.due("forty sent, as one", Calls.with(new int[0], Calls.distinct(40)).least(), 1 + 3 + 40);
        book.due("a copy as an add between two", Calls.with("Xabcdefg", "?bcd?").least(), 1 + 3 + 5);
        PlaceMender ring = Calls.with("abcdefgh", "efghabcd");
        book.due("a ring, no saving", ring.least(), 1 + 4 + 4);
    }

    private void leastOfRuns() {
        book.says(12, "(also shorter than LONGEST, of LEAST CELLS or more; STAYS likewise)");
        for (int cells = 3; cells <= 8; cells++) {
            String text = "abcdefgh".substring(0, cells);
            PlaceMender x = Calls.with("x" + text, text);
            x.terms(0, cells);
            book.due("a copy of just " + cells, x.least(), 1 + 4);
            x = Calls.with(text + "x", text + "y");
            x.terms(0, cells);
            book.due("a stay of just " + cells, x.least(), 1 + 0 + 3 + 1);
            if (cells < 8) {
                x.terms(0, cells + 1);
                book.due("a stay of one less", x.least(), 1 + 3 + cells + 1);
                x = Calls.with("x" + text, text);
                x.terms(0, cells + 1);
                book.due("a copy of one less", x.least(), 1 + 3 + cells);
            }
        }
        PlaceMender x = Calls.with("xabcdexdefg", "abcdefg");
        book.due("two copies, one shorter than longest", x.least(), 1 + 4 + 4);
        x.terms(0, 4);
        book.due("none shorter than LEAST", x.least(), 1 + 4 + 3 + 2);
        x = Calls.with("abcYYdefghYabcd", "abcdefgh");
        book.due("a stay shorter than longest", x.least(), 1 + 4);
        x.terms(0, 4);
        book.due("no stay shorter than LEAST", x.least(), 1 + 4 + 4);
        x = Calls.with(Calls.distinct(40), Calls.distinct(40));
        book.due("all stays", x.least(), 1);
        Calls.setOld(x, Calls.distinct(3));
        book.due("three stay, where forty did", x.least(), 1 + 3 + 37);
    }
}
