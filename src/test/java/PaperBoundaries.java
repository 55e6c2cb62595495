/** The boundaries that promises 44 to 51 name: what is told on paper, images, counts. */
final class PaperBoundaries {
    private static final int NONE = PlaceMender.NONE;
    private static final int LEAST_INT = Integer.MIN_VALUE;
    private static final int MOST_INT = Integer.MAX_VALUE;

    private final Sentences book;

    PaperBoundaries(Sentences book) {
        this.book = book;
    }

    void all() {
        hazard();
        hazardOfNone();
        wear();
        cuts();
        cutsWithTwoCells();
        twice();
        odds();
        image();
        restore();
        restoreRefused();
        count();
        countOfDevice();
    }

    // ---- 44, 45

    private void hazardIs(String told, int act, int cell, int... bytes) {
        PlaceMender x = Calls.burnt("abcdefgh");
        Calls.load(x, bytes);
        book.due("hazard(0), " + told, x.hazard(0), act);
        book.due("hazard(1), " + told, x.hazard(1), cell);
        x.go(400);
        book.due("hazard(0) behind all steps, " + told, x.hazard(0), act);
    }

    private void hazard() {
        book.says(44, "The first ACT of the PATCH that was taken that reads a CELL of FLASH which an ACT ahead of it "
                + "writes (what 0), the first such CELL along what it reads (1).");
        // 8 to 11 are written ahead of it
        hazardIs("up to the cell ahead of them", NONE, NONE, 40, 2, 8, 30, 4, 2, 20, 4, 4);
        hazardIs("up to the first of them", 1, 8, 40, 2, 8, 30, 4, 2, 20, 5, 4);
        hazardIs("from the last of them", 1, 11, 40, 2, 8, 30, 4, 2, 20, 11, 4);
        hazardIs("from the cell behind them", NONE, NONE, 40, 2, 8, 30, 4, 2, 20, 12, 4);
        hazardIs("by an unsave, read by a save", 1, 8, 40, 3, 8, 0, 4, 1, 5, 4, 0);
        hazardIs("cell 0, sent", 1, 0, 40, 4, 0, 1, 9, 2, 20, 0, 1);
        hazardIs("cell 39, sent", 1, 39, 40, 4, 39, 1, 9, 1, 39, 1, 0);
        hazardIs("the first act of two", 1, 9, 40, 4, 9, 1, 9, 1, 9, 1, 0, 1, 9, 1, 0);
        hazardIs("the first cell along it, not the first written", 2, 4, 40, 4, 6, 1, 9, 4, 4, 1, 9, 1, 4, 4, 0);
        int[] most = Calls.patchOf(36, 1, 0, 1, 0);
        most[1] = 4;
        most[2] = 39;
        most[141] = 1;
        most[142] = 39;
        hazardIs("the last act of the most", 35, 39, most);
    }

    private void hazardOfNone() {
        book.says(44, "NONE; -2: what.");
        hazardIs("no acts", NONE, NONE, 40);
        hazardIs("one act, on its own cells", NONE, NONE, 40, 2, 1, 0, 39);
        hazardIs("written behind it", NONE, NONE, 40, 2, 20, 8, 4, 4, 8, 1, 9);
        hazardIs("saves write no flash", NONE, NONE, 40, 1, 0, 4, 0, 1, 0, 4, 0);
        hazardIs("unsaves and sends read none", NONE, NONE, 40, 4, 0, 1, 9, 3, 4, 0, 4, 4, 0, 1, 9);
        PlaceMender shorter = Calls.burnt("abcdefgh");
        Calls.load(shorter, 40, 4, 0, 1, 9, 2, 20, 0, 1);
        Calls.load(shorter, 40, 4, 0, 1, 9);
        book.due("of a shorter patch than the one before it", shorter.hazard(0), NONE);
        book.due("at first", new PlaceMender().hazard(0), NONE);
        book.due("at first", new PlaceMender().hazard(1), NONE);
        PlaceMender x = Calls.burnt("abcdefgh");
        Calls.load(x, 40, 4, 0, 1, 9, 2, 20, 0, 1);
        for (int what : new int[] {-1, 2, LEAST_INT, MOST_INT}) {
            book.due("hazard(" + what + ")", x.hazard(what), -2);
            book.due("ahead of NONE: hazard(" + what + ")", new PlaceMender().hazard(what), -2);
        }
    }

    private void wear() {
        book.says(45, "In how many STEPS a BLOCK is written.");
        PlaceMender x = Calls.burnt("abcdefgh");
        for (int b = 0; b < 10; b++) {
            book.due("without steps, wear(" + b + ")", x.wear(b), 0);
        }
        Calls.load(x, Calls.patchOf(36, 2, 0, 0, 40));
        for (int b = 0; b < 10; b++) {
            book.due("the most, wear(" + b + ")", x.wear(b), 36);
        }
        Calls.load(x, 40, 1, 0, 20, 0, 2, 3, 0, 2, 3, 39, 0, 1, 4, 36, 4, 1, 2, 3, 4);
        int[] want = {1, 1, 0, 0, 0, 0, 0, 0, 0, 2};
        for (int b = 0; b < 10; b++) {
            book.due("wear(" + b + ")", x.wear(b), want[b]);
        }
        x.go(400);
        book.due("behind all steps", x.wear(9), 2);
        book.says(45, "-2.");
        for (int b : new int[] {-1, 10, LEAST_INT, MOST_INT}) {
            book.due("wear(" + b + ")", x.wear(b), -2);
            book.due("without steps, wear(" + b + ")", new PlaceMender().wear(b), -2);
        }
    }

    // ---- 46 to 48

    private void cutsAre(String told, PlaceMender x, int... want) {
        for (int what = 0; what < 4; what++) {
            book.due("cuts(" + what + "), " + told, x.cuts(what), want[what]);
        }
    }

    /** One step: three cells of a block come one to the left. */
    private static PlaceMender shifted() {
        PlaceMender x = Calls.burnt("abcd");
        Calls.load(x, 40, 2, 0, 1, 3);
        return x;
    }

    private void cuts() {
        book.says(46, "What 0: how many CUTS; behind how many FLASH is as DUE behind all STEPS, 1: so, 2: with STEP "
                + "forgotten ahead of BOOT (none FITS: it isn't), 3: with JOURNAL empty ahead of BOOT.");
        cutsAre("at first", new PlaceMender(), 0, 0, 0, 0);
        PlaceMender x = Calls.burnt("abcd");
        cutsAre("without steps", x, 0, 0, 0, 0);
        Calls.load(x, 40, 4, 0, 4, 9, 8, 7, 6);
        cutsAre("one block that is sent", x, 4, 4, 4, 4);
        Calls.load(x, 40, 1, 0, 4, 0);
        cutsAre("one save", x, 4, 4, 4, 4);
        Calls.load(x, 40, 2, 0, 2, 2);
        cutsAre("two cells in their block", x, 4, 4, 4, 3);
        cutsAre("the fewest", shifted(), 4, 4, 4, 2);
        x = Calls.with("abcdefgh", "efghabcd");
        x.burn();
        x.take();
        cutsAre("by way of the stash", x, 12, 12, 12, 12);
        Calls.burn(x, "abcd");
        Calls.load(x, 40, 1, 0, 4, 0);
        x.go(1);
        Calls.load(x, 40, 3, 8, 0, 4);
        cutsAre("from START's stash", x, 4, 4, 4, 4);
        x = Calls.burnt("abcd");
        // without a journal two cells of block 0 stay erased; all other blocks are erased as it is
        x = Calls.burnt("abcd");
        Calls.load(x, Calls.patchOf(36, 2, 0, 0, 40));
        cutsAre("the most steps, all in their own place", x, 1440, 1440, 1440, 3 * 360 + 9 * 36);
        x = shifted();
        x.cut(2, 1);
        x.forget();
        x.spoil(0, 0);
        cutsAre("from START, wherever it is", x, 4, 4, 4, 2);
        book.due("it stays where it is", x.count(8) + x.cell(2, 0), 0);
        book.says(46, "-2.");
        for (int what : new int[] {-1, 4, LEAST_INT, MOST_INT}) {
            book.due("cuts(" + what + ")", x.cuts(what), -2);
            book.due("without steps, cuts(" + what + ")", new PlaceMender().cuts(what), -2);
        }
    }

    private void cutsWithTwoCells() {
        book.says(46, "3: with JOURNAL empty ahead of BOOT.");
        PlaceMender x = Calls.burnt("ab");
        Calls.load(x, 40, 2, 0, 1, 1);
        cutsAre("the second cell is written still", x, 4, 4, 4, 4);
        x = Calls.burnt("abc");
        Calls.load(x, 40, 2, 0, 2, 1);
        cutsAre("the third is erased", x, 4, 4, 4, 3);
    }

    private void twice() {
        book.says(47, "On paper, from START: in each STEP POWER is CUT in a PHASE, BOOT, then in the next STEP (if one "
                + "is left) in the other PHASE, c 2 each time, BOOT, then all STEPS that are left: behind how many "
                + "FLASH is as DUE behind all STEPS.");
        PlaceMender one = shifted();
        PlaceMender most = Calls.burnt("abcd");
        Calls.load(most, Calls.patchOf(36, 2, 1, 0, 39));
        PlaceMender stashed = Calls.with("abcdefgh", "efghabcd");
        stashed.burn();
        stashed.take();
        for (int phase = 0; phase < 4; phase++) {
            for (int other = 0; other < 4; other++) {
                String call = "twice(" + phase + ", " + other + ")";
                book.due("without steps, " + call, new PlaceMender().twice(phase, other), 0);
                book.due("one step, " + call, one.twice(phase, other), 1);
                book.due("by way of the stash, " + call, stashed.twice(phase, other), 3);
                book.due("the most steps, " + call, most.twice(phase, other), 360);
            }
        }
        book.due("the device stays", one.count(7), 0);
        book.says(47, "-3: a PHASE.");
        for (int wrong : new int[] {-1, 4, LEAST_INT, MOST_INT}) {
            book.refused(x -> Calls.burn(x, "abcd"), "twice(" + wrong + ", 0)", -3, x -> x.twice(wrong, 0));
            book.refused(x -> Calls.burn(x, "abcd"), "twice(3, " + wrong + ")", -3, x -> x.twice(3, wrong));
            book.due("both, twice(" + wrong + ", " + wrong + ")", one.twice(wrong, wrong), -3);
        }
    }

    private void odds() {
        book.says(48, "cuts(what), what 1 to 3, by how many CUTS, in lowest terms, part 0: above, 1: below.");
        PlaceMender x = shifted();
        int[][] want = {{1, 1}, {1, 1}, {1, 2}};
        for (int what = 1; what <= 3; what++) {
            book.due("odds(" + what + ", 0)", x.odds(what, 0), want[what - 1][0]);
            book.due("odds(" + what + ", 1)", x.odds(what, 1), want[what - 1][1]);
        }
        x = Calls.burnt("abcdefgh");
        Calls.load(x, 40, 2, 0, 2, 6);
        book.due("5 of 8, above", x.odds(3, 0), 5);
        book.due("5 of 8, below", x.odds(3, 1), 8);
        x = Calls.burnt("abcd");
        Calls.load(x, Calls.patchOf(36, 2, 0, 0, 40));
        book.due("1404 of 1440, above", x.odds(3, 0), 1404 / 36);
        book.due("1404 of 1440, below", x.odds(3, 1), 1440 / 36);
        book.says(48, "NONE: there are no CUTS; -2: what, part.");
        PlaceMender none = new PlaceMender();
        for (int what = 1; what <= 3; what++) {
            book.due("at first, odds(" + what + ", 0)", none.odds(what, 0), NONE);
            book.due("at first, odds(" + what + ", 1)", none.odds(what, 1), NONE);
        }
        for (int wrong : new int[] {-1, 4, LEAST_INT, MOST_INT}) {
            book.due("odds(" + wrong + ", 0)", x.odds(wrong, 0), -2);
            book.due("odds(1, " + wrong + ")", x.odds(1, wrong), -2);
            book.due("ahead of NONE: odds(" + wrong + ", 0)", none.odds(wrong, 0), -2);
            book.due("ahead of NONE: odds(3, " + wrong + ")", none.odds(3, wrong), -2);
        }
        book.due("odds(0, 0)", x.odds(0, 0), -2);
        book.due("odds(1, 2)", x.odds(1, 2), -2);
        book.due("ahead of NONE: odds(0, 1)", none.odds(0, 1), -2);
        book.due("ahead of NONE: odds(3, 2)", none.odds(3, 2), -2);
    }

    // ---- 49, 50

    private static void busy(PlaceMender x) {
        Calls.set(x, "abcdefgh", "efghabcd");
        x.terms(0, 4);
        x.terms(1, 2);
        x.terms(2, 1);
        x.terms(3, 20);
        x.burn();
        x.take();
        x.go(1);
        x.cut(2, 1);
        x.forget();
    }

    private static void otherwise(PlaceMender x) {
        x.burn();
        Calls.set(x, "x", "");
        x.terms(0, 8);
        x.terms(1, 1);
        x.terms(2, 2);
        x.terms(3, 0);
        Calls.load(x, 40, 4, 0, 4, 9, 8, 7, 6);
        x.go(1);
    }

    private void image() {
        book.says(49, "An IMAGE is made: 0.");
        for (int i = 0; i < 2; i++) {
            PlaceMender x = Sentences.made(PaperBoundaries::busy);
            String before = Calls.surface(x);
            book.due("image(" + i + ")", x.image(i), 0);
            book.same("all that can be seen", Calls.surface(x), before);
            book.due("the other one isn't made", x.restore(1 - i), -5);
            book.due("this one is", x.restore(i), 0);
        }
        PlaceMender x = Calls.with("a", "");
        x.image(0);
        Calls.setOld(x, 1, 2);
        x.image(1);
        Calls.setOld(x, 1, 2, 3);
        book.due("made again", x.image(0), 0);
        x.restore(1);
        book.due("the one", x.count(0), 2);
        x.restore(0);
        book.due("the other, as it was made again", x.count(0), 3);
        book.says(49, "-2.");
        for (int i : new int[] {-1, 2, LEAST_INT, MOST_INT}) {
            book.refused(PaperBoundaries::busy, "image(" + i + ")", -2, y -> y.image(i));
        }
    }

    private void restore() {
        book.says(50, "All that is in an IMAGE is as it was: 0.");
        // what can be undone isn't in an image: it is none on both ways
        book.alike("restored", x -> {
            busy(x);
            x.image(0);
            otherwise(x);
            book.due("restore(0)", x.restore(0), 0);
        }, x -> {
            busy(x);
            x.image(0);
            x.restore(0);
        });
        PlaceMender x = Sentences.made(PaperBoundaries::busy);
        x.image(1);
        String before = Calls.surface(x).replace("count 10 5\n", "count 10 0\n");
        otherwise(x);
        book.due("restore(1)", x.restore(1), 0);
        book.same("all that can be seen, but what can be undone", Calls.surface(x), before);
        PlaceMender none = new PlaceMender();
        none.image(0);
        busy(none);
        none.restore(0);
        book.same("of a new object", Calls.surface(none), Calls.surface(new PlaceMender()));
        PlaceMender y = Calls.with("ba", "ba");
        y.image(0);
        Calls.set(y, "ab", "??");
        y.terms(0, 8);
        book.due("the other image's first suffix", y.suffix(0), 0);
        book.due("the other image's patch", y.plan(3), 1 + 3 + 2);
        y.restore(0);
        book.due("its first suffix", y.suffix(0), 1);
        book.due("its patch", y.patch(4), 'b');
        book.due("its LEAST", y.count(2), 3);
    }

    private void restoreRefused() {
        book.says(50, "-2; -5: none was made.");
        for (int i : new int[] {-1, 2, LEAST_INT, MOST_INT}) {
            book.refused(PaperBoundaries::busy, "restore(" + i + ")", -2, x -> x.restore(i));
            book.refused(x -> {
                busy(x);
                x.image(0);
                x.image(1);
            }, "both are made, restore(" + i + ")", -2, x -> x.restore(i));
        }
        for (int i = 0; i < 2; i++) {
            int made = i;
            book.refused(PaperBoundaries::busy, "none is made, restore(" + i + ")", -5, x -> x.restore(made));
            book.refused(x -> {
                busy(x);
                x.image(made);
            }, "the other one is made, restore(" + (1 - i) + ")", -5, x -> x.restore(1 - made));
        }
    }

    // ---- 51

    private void count() {
        book.says(51, "0 CELLS of OLD, 1 of NEW, 2 to 5 TERMS 0 to 3,");
        PlaceMender x = new PlaceMender();
        int[] first = {0, 0, 3, 0, 0, 8, 0, 0, 1, NONE, 0, 0};
        for (int what = 0; what < first.length; what++) {
            book.due("at first, count(" + what + ")", x.count(what), first[what]);
        }
        Calls.setOld(x, Calls.distinct(40));
        Calls.setNew(x, Calls.distinct(39));
        int[] highest = {8, 2, 2, 20};
        int[] lowest = {3, 0, 0, 0};
        book.due("count(0)", x.count(0), 40);
        book.due("count(1)", x.count(1), 39);
        for (int what = 0; what < 4; what++) {
            x.terms(what, highest[what]);
            book.due("the most, count(" + (2 + what) + ")", x.count(2 + what), highest[what]);
            x.terms(what, lowest[what]);
            book.due("the least, count(" + (2 + what) + ")", x.count(2 + what), lowest[what]);
        }
        book.says(51, "NONE for others.");
        for (int what : new int[] {-1, 12, 13, LEAST_INT, MOST_INT}) {
            book.due("count(" + what + ")", x.count(what), NONE);
            book.due("at first, count(" + what + ")", new PlaceMender().count(what), NONE);
        }
    }

    private void countOfDevice() {
        book.says(51, "6 ACTS of the PATCH that was taken, 7 STEP (NONE: forgotten), 8 POWER (1 on, 0), "
                + "9 JOURNAL's BLOCK (NONE: it is empty), 10 calls that can be UNDONE, 11 bytes on THE TAPE.");
        PlaceMender x = new PlaceMender();
        Calls.load(x, Calls.patchOf(36, 2, 39, 0, 1));
        book.due("the most acts", x.count(6), 36);
        book.due("STEP ahead of all", x.count(7), 0);
        x.go(35);
        book.due("POWER on", x.count(8), 1);
        book.due("no JOURNAL", x.count(9), NONE);
        x.cut(2, 2);
        book.due("STEP behind a cut", x.count(7), 35);
        book.due("POWER off", x.count(8), 0);
        book.due("the last BLOCK in JOURNAL", x.count(9), 9);
        x.forget();
        book.due("STEP forgotten", x.count(7), NONE);
        x.boot();
        book.due("the least that fits: nothing was changed", x.count(7), 0);
        book.due("JOURNAL empty again", x.count(9), NONE);
        x.go(400);
        book.due("STEP behind all", x.count(7), 36);
        book.due("calls that can be UNDONE", x.count(10), 6);
        for (int i = 0; i < 5; i++) {
            x.spoil(0, 0);
        }
        book.due("the most calls that can be UNDONE", x.count(10), 10);
        Calls.feed(x, Calls.distinct(160));
        book.due("the most bytes", x.count(11), 160);
        x.fresh(0);
        book.due("none again", x.count(11), 0);
        PlaceMender y = new PlaceMender();
        Calls.load(y, 40, 4, 0, 1, 0);
        y.cut(3, 0);
        book.due("the first BLOCK in JOURNAL", y.count(9), 0);
    }
}
