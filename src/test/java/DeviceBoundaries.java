import java.math.BigInteger;

/** The boundaries that promises 34 to 43 name: going on, cuts, booting, spoiling, undoing, digests, fits. */
final class DeviceBoundaries {
    private static final int NONE = PlaceMender.NONE;
    private static final int LEAST_INT = Integer.MIN_VALUE;
    private static final int MOST_INT = Integer.MAX_VALUE;
    private static final char ERASED = 255;

    private final Sentences book;

    DeviceBoundaries(Sentences book) {
        this.book = book;
    }

    void all() {
        go();
        goRefused();
        cut();
        cutRefused();
        forget();
        boot();
        bootRefused();
        spoil();
        undo();
        undoRefused();
        digest();
        due();
        fits();
        right();
    }

    /** Flash is abcdefgh; there are two steps: efgh comes into block 0, WXYZ is sent into block 1. */
    private static void ready(PlaceMender x) {
        Calls.burn(x, "abcdefgh");
        Calls.load(x, 8, 2, 0, 4, 4, 4, 4, 4, 'W', 'X', 'Y', 'Z');
    }

    private static Sentences.Setup off(int phase, int c) {
        return x -> {
            ready(x);
            x.cut(phase, c);
        };
    }

    private static Sentences.Setup forgotten(int phase, int c) {
        return x -> {
            ready(x);
            x.cut(phase, c);
            x.forget();
        };
    }

    // ---- 34

    private void go() {
        book.says(34, "n STEPS (1 to 400) are done, or as many as are left: how many.");
        PlaceMender x = Calls.burnt("abcdefgh");
        book.due("go(1) of none", x.go(1), 0);
        book.due("go(400) of none", x.go(400), 0);
        book.due("that isn't undone", x.count(10), 1);
        Calls.load(x, Calls.patchOf(36, 2, 1, 0, 39));
        book.due("go(1) of 360", x.go(1), 1);
        book.due("STEP", x.count(7), 1);
        book.due("go(358) of 359", x.go(358), 358);
        book.due("go(2) of 1", x.go(2), 1);
        book.due("STEP behind all", x.count(7), 360);
        int undone = x.count(10);
        book.due("go(1) of none left", x.go(1), 0);
        book.due("that isn't undone", x.count(10), undone);
        book.due("POWER stays on", x.count(8), 1);
        Calls.load(x, Calls.patchOf(36, 2, 0, 0, 40));
        book.due("go(360) of 360", x.go(360), 360);
        Calls.load(x, Calls.patchOf(36, 2, 0, 0, 40));
        book.due("go(361) of 360", x.go(361), 360);
        Calls.load(x, Calls.patchOf(36, 2, 0, 0, 40));
        book.due("go(400) of 360", x.go(400), 360);
    }

    private void goRefused() {
        book.says(34, "-3; -5: POWER is off.");
        for (int n : new int[] {0, 401, -1, LEAST_INT, MOST_INT}) {
            book.refused(DeviceBoundaries::ready, "go(" + n + ")", -3, x -> x.go(n));
            book.refused(off(2, 1), "told first, without power: go(" + n + ")", -3, x -> x.go(n));
        }
        for (int n : new int[] {1, 400}) {
            for (int phase = 0; phase < 4; phase++) {
                book.refused(off(phase, 1), "go(" + n + ") behind a cut in " + phase, -5, x -> x.go(n));
            }
            book.refused(forgotten(2, 1), "go(" + n + "), forgotten", -5, x -> x.go(n));
        }
    }

    // ---- 35, 36

    private void cut() {
        book.says(35, "POWER is CUT in the next STEP, in a PHASE (0 to 3), c 0 to 3: the STEP.");
        String cells = "efgh";
        for (int phase = 0; phase < 4; phase++) {
            for (int c = 0; c < 4; c++) {
                PlaceMender x = Sentences.made(DeviceBoundaries::ready);
                book.due("cut(" + phase + ", " + c + ")", x.cut(phase, c), 0);
                String torn = cells.substring(0, c) + String.valueOf(ERASED).repeat(4 - c);
                String want = phase < 2 ? "abcd" : phase == 2 ? torn : cells;
                book.same("block 0 behind cut(" + phase + ", " + c + ")", Calls.flash(x, 0, 4), want);
                book.same("block 1", Calls.flash(x, 4, 8), "efgh");
                book.due("JOURNAL", x.count(9), phase < 2 ? NONE : 0);
                book.due("POWER", x.count(8), 0);
                book.due("STEP", x.count(7), 0);
            }
        }
        PlaceMender x = Calls.burnt("abcdefgh");
        Calls.load(x, Calls.patchOf(36, 2, 1, 0, 39));
        x.go(359);
        book.due("in the last step", x.cut(3, 3), 359);
        book.due("its block", x.count(9), 0);
        book.due("behind it", x.boot(), 360);
    }

    private void cutRefused() {
        book.says(35, "-3; -5: POWER is off, there is no STEP left.");
        int[][] wrong = {{-1, 0}, {4, 0}, {0, -1}, {0, 4}, {3, 4}, {4, 3}, {LEAST_INT, 0}, {MOST_INT, 0},
            {0, LEAST_INT}, {0, MOST_INT}};
        Sentences.Setup done = x -> {
            ready(x);
            x.go(2);
        };
        for (int[] w : wrong) {
            String call = "cut(" + w[0] + ", " + w[1] + ")";
            book.refused(DeviceBoundaries::ready, call, -3, x -> x.cut(w[0], w[1]));
            book.refused(off(2, 1), "told first, without power: " + call, -3, x -> x.cut(w[0], w[1]));
            book.refused(done, "told first, no step left: " + call, -3, x -> x.cut(w[0], w[1]));
        }
        for (int phase = 0; phase < 4; phase++) {
            int in = phase;
            book.refused(off(phase, 3), "without power, phase " + phase, -5, x -> x.cut(in, 3));
            book.refused(forgotten(phase, 3), "forgotten, phase " + phase, -5, x -> x.cut(in, 3));
            book.refused(done, "no step left, phase " + phase, -5, x -> x.cut(in, 0));
            book.refused(x -> { }, "no step at all, phase " + phase, -5, x -> x.cut(in, 0));
        }
        PlaceMender x = Sentences.made(DeviceBoundaries::ready);
        x.go(1);
        book.due("one step left", x.cut(0, 0), 1);
    }

    private void forget() {
        book.says(36, "STEP is forgotten: 0.");
        for (int phase = 0; phase < 4; phase++) {
            PlaceMender x = Sentences.made(off(phase, 1));
            int journal = x.count(9);
            book.due("forget() behind a cut in " + phase, x.forget(), 0);
            book.due("STEP", x.count(7), NONE);
            book.due("JOURNAL stays", x.count(9), journal);
            book.due("POWER stays", x.count(8), 0);
        }
        book.says(36, "-5: POWER is on, it is forgotten.");
        book.refused(x -> { }, "at first", -5, PlaceMender::forget);
        book.refused(DeviceBoundaries::ready, "with power", -5, PlaceMender::forget);
        book.refused(forgotten(0, 0), "forgotten, no journal", -5, PlaceMender::forget);
        book.refused(forgotten(2, 2), "forgotten, a journal", -5, PlaceMender::forget);
        book.refused(x -> {
            forgotten(2, 2).on(x);
            x.boot();
        }, "booted again", -5, PlaceMender::forget);
    }

    // ---- 37

    private void boot() {
        book.says(37, "BOOT: STEP then.");
        int[] want = {0, 0, 1, 1};
        for (int phase = 0; phase < 4; phase++) {
            for (int c = 0; c < 4; c++) {
                PlaceMender x = Sentences.made(off(phase, c));
                book.due("boot() behind cut(" + phase + ", " + c + ")", x.boot(), want[phase]);
                x.go(400);
                book.same("flash", Calls.flash(x, 0, 8), "efghWXYZ");
                x = Sentences.made(forgotten(phase, c));
                book.due("boot() behind cut(" + phase + ", " + c + "), forgotten", x.boot(), want[phase]);
                book.due("known", x.count(7), want[phase]);
            }
        }
        PlaceMender x = Sentences.made(DeviceBoundaries::ready);
        x.go(1);
        x.cut(3, 0);
        book.due("behind the last step", x.boot(), 2);
        book.due("none is left", x.go(1), 0);
    }

    private void bootRefused() {
        book.says(37, "-5: POWER is on; STEP is forgotten and none would FIT (all stays, JOURNAL and the BLOCK, too).");
        book.refused(x -> { }, "at first", -5, PlaceMender::boot);
        book.refused(DeviceBoundaries::ready, "with power", -5, PlaceMender::boot);
        for (int phase = 0; phase < 4; phase++) {
            int in = phase;
            book.refused(x -> {
                forgotten(in, 1).on(x);
                x.spoil(39, 0);
            }, "one cell of another block is spoilt, phase " + phase, -5, PlaceMender::boot);
            PlaceMender x = Sentences.made(off(phase, 1));
            x.spoil(39, 0);
            book.due("if it is known, none need fit", x.boot(), phase < 2 ? 0 : 1);
        }
        PlaceMender x = Sentences.made(forgotten(2, 1));
        x.spoil(39, 0);
        x.boot();
        book.same("the BLOCK stays", Calls.flash(x, 0, 4), "e\377\377\377");
        book.due("JOURNAL stays", x.count(9), 0);
        x.spoil(39, 255);
        book.due("if it is mended", x.boot(), 1);
        x = Sentences.made(forgotten(3, 1));
        x.spoil(0, 'Q');
        book.due("what the journal has is written over what is spoilt", x.boot(), 1);
        book.same("so", Calls.flash(x, 0, 4), "efgh");
    }

    // ---- 38, 39

    private void spoil() {
        book.says(38, "A CELL of FLASH is v (0 to 255): what it was.");
        PlaceMender x = Calls.burnt("a");
        int[][] want = {{0, 0, 'a'}, {0, 255, 0}, {0, 1, 255}, {39, 254, 255}, {39, 254, 254}, {39, 0, 254}};
        for (int[] w : want) {
            book.due("spoil(" + w[0] + ", " + w[1] + ")", x.spoil(w[0], w[1]), w[2]);
            book.due("cell(2, " + w[0] + ")", x.cell(2, w[0]), w[1]);
        }
        book.due("each can be undone, also one that changed nothing", x.count(10), 7);
        book.says(38, "-2: the CELL; -3.");
        for (int cell : new int[] {-1, 40, LEAST_INT, MOST_INT}) {
            book.refused(DeviceBoundaries::ready, "spoil(" + cell + ", 0)", -2, y -> y.spoil(cell, 0));
            book.refused(off(2, 1), "told first: spoil(" + cell + ", 256)", -2, y -> y.spoil(cell, 256));
        }
        for (int v : new int[] {-1, 256, LEAST_INT, MOST_INT}) {
            for (int cell : new int[] {0, 39}) {
                book.refused(DeviceBoundaries::ready, "spoil(" + cell + ", " + v + ")", -3, y -> y.spoil(cell, v));
            }
        }
    }

    private void undo() {
        book.says(39, "n calls (1 to 10) are UNDONE: how many still can be.");
        for (int n = 1; n <= 10; n++) {
            PlaceMender x = new PlaceMender();
            for (int i = 0; i < 10; i++) {
                x.spoil(0, i);
            }
            book.due("undo(" + n + ") of 10", x.undo(n), 10 - n);
            book.due("the cell is as it was", x.cell(2, 0), n == 10 ? 255 : 9 - n);
            book.due("so many still can be", x.count(10), 10 - n);
        }
        PlaceMender x = new PlaceMender();
        x.spoil(0, 1);
        book.due("undo(1) of 1", x.undo(1), 0);
    }

    private void undoRefused() {
        book.says(39, "-3: n, more than can be.");
        for (int n : new int[] {0, -1, 11, LEAST_INT, MOST_INT}) {
            book.refused(x -> { }, "undo(" + n + ") of none", -3, x -> x.undo(n));
            book.refused(x -> {
                for (int i = 0; i < 12; i++) {
                    x.spoil(i, i);
                }
            }, "undo(" + n + ") of ten", -3, x -> x.undo(n));
        }
        for (int many = 0; many < 10; many++) {
            int calls = many;
            book.refused(x -> {
                for (int i = 0; i < calls; i++) {
                    x.spoil(i, i);
                }
            }, "undo(" + (calls + 1) + ") of " + calls, -3, x -> x.undo(calls + 1));
        }
    }

    // ---- 40 to 42

    private void digest() {
        book.says(40, "The DIGEST of a BLOCK of FLASH.");
        BigInteger modulus = BigInteger.ONE.shiftLeft(32);
        BigInteger back = BigInteger.valueOf(1664525).modInverse(modulus);
        long[] wanted = {0, 1, 2147483647L, 2147483648L, 4294967295L, 1013904223L, 1013904222L};
        for (int b = 0; b < 10; b += 9) {
            for (long want : wanted) {
                // the four cells of which it is the digest
                long word = BigInteger.valueOf(want - 1013904223L).multiply(back).mod(modulus).longValue();
                PlaceMender x = new PlaceMender();
                for (int i = 0; i < 4; i++) {
                    x.spoil(4 * b + i, (int) (word >> 24 - 8 * i & 255));
                }
                book.due("digest(" + b + ") of " + word, x.digest(b), want);
                book.due("the other end", x.digest(9 - b), 1012239698L);
            }
        }
        book.says(40, "-2.");
        for (int b : new int[] {-1, 10, LEAST_INT, MOST_INT}) {
            book.due("digest(" + b + ")", new PlaceMender().digest(b), -2);
        }
    }

    private void due() {
        book.says(41, "The DIGEST that is DUE of a BLOCK ahead of a STEP (0 to STEPS).");
        PlaceMender x = new PlaceMender();
        book.due("at first, the first block", x.due(0, 0), 1012239698L);
        book.due("at first, the last block", x.due(0, 9), 1012239698L);
        x = Calls.burnt("abcd");
        Calls.load(x, Calls.patchOf(36, 2, 4, 0, 36));
        int steps = x.steps();
        book.due("steps", steps, 36 * 9);
        book.due("ahead of the first, the last block", x.due(0, 9), x.digest(9));
        book.due("ahead of the first, the first block", x.due(0, 0), x.digest(0));
        book.due("behind all, the last block", x.due(steps, 9), x.digest(0));
        book.due("ahead of the step that writes it", x.due(8 * 9, 9), x.digest(9));
        book.due("behind the step that writes it", x.due(8 * 9 + 1, 9), x.digest(0));
        book.says(41, "-2.");
        for (int s : new int[] {-1, steps + 1, LEAST_INT, MOST_INT}) {
            book.due("due(" + s + ", 0)", x.due(s, 0), -2);
        }
        for (int b : new int[] {-1, 10, LEAST_INT, MOST_INT}) {
            book.due("due(0, " + b + ")", x.due(0, b), -2);
            book.due("due(" + steps + ", " + b + ")", x.due(steps, b), -2);
        }
        book.due("without steps, due(1, 0)", new PlaceMender().due(1, 0), -2);
    }

    private void fits() {
        book.says(42, "Of numbers that FIT now (JOURNAL aside), what 0: the least, 1: the greatest, "
                + "2: how many there are.");
        int[] ahead = {0, 0, 1};
        int[] behind = {2, 2, 1};
        PlaceMender x = Sentences.made(DeviceBoundaries::ready);
        for (int what = 0; what < 3; what++) {
            book.due("ahead of all, fits(" + what + ")", x.fits(what), ahead[what]);
            book.due("at first, fits(" + what + ")", new PlaceMender().fits(what), ahead[what]);
        }
        x.go(2);
        for (int what = 0; what < 3; what++) {
            book.due("behind all, fits(" + what + ")", x.fits(what), behind[what]);
        }
        PlaceMender all = Calls.burnt("abcdefgh");
        Calls.load(all, Calls.patchOf(36, 2, 0, 0, 40));
        int[] every = {0, 360, 361};
        for (int what = 0; what < 3; what++) {
            book.due("steps that change nothing, fits(" + what + ")", all.fits(what), every[what]);
        }
        PlaceMender torn = Sentences.made(off(2, 1));
        book.due("a torn block, JOURNAL aside", torn.fits(2), 0);
        book.says(42, "NONE: there are none (of 0, 1); -2: what.");
        x.spoil(39, 0);
        book.due("fits(0)", x.fits(0), NONE);
        book.due("fits(1)", x.fits(1), NONE);
        book.due("fits(2)", x.fits(2), 0);
        for (int what : new int[] {-1, 3, LEAST_INT, MOST_INT}) {
            book.due("fits(" + what + ")", all.fits(what), -2);
            book.due("ahead of NONE: fits(" + what + ")", x.fits(what), -2);
        }
    }

    // ---- 43

    private void right() {
        book.says(43, "How many of NEW's CELLS are in FLASH, each at its place.");
        book.due("of no cells", new PlaceMender().right(), 0);
        PlaceMender x = Calls.with(Calls.distinct(40), Calls.distinct(40));
        book.due("none are", x.right(), 0);
        x.burn();
        book.due("all forty", x.right(), 40);
        x.spoil(0, 99);
        x.spoil(39, 99);
        book.due("but the first and the last", x.right(), 38);
        x = Calls.with("", "\377\377\377");
        book.due("255 that are there at first", x.right(), 3);
        x = Calls.with("abcdef", "bcdefa");
        x.burn();
        book.due("all are there, none at its place", x.right(), 0);
        Calls.setNew(x, Calls.cells("abcdef"));
        book.due("all six", x.right(), 6);
        Calls.setNew(x, Calls.cells("abcde"));
        book.due("just NEW's five", x.right(), 5);
        Calls.setNew(x);
        book.due("no cells of NEW", x.right(), 0);
    }
}
