/** The boundaries that the terms of the device and of all calls name (part 3 of "Terms"). */
final class DeviceTermsBoundaries {
    private static final int NONE = PlaceMender.NONE;
    private static final int TERMS = Sentences.TERMS;
    private static final long ERASED_DIGEST = 1012239698L;

    private final Sentences book;

    DeviceTermsBoundaries(Sentences book) {
        this.book = book;
    }

    void all() {
        deviceAtFirst();
        startAtFirst();
        stepsOfKinds();
        stepsUpOrDown();
        stepOfBlock();
        phases();
        cutInBlocks();
        cutInSaves();
        digests();
        dues();
        needed();
        neededPerBlock();
        fitting();
        bootWithJournal();
        bootForgotten();
        cuts();
        undone();
        notUndone();
        mostUndone();
        images();
        codes();
        toldFirst();
        manyCalls();
    }

    // ---- what there is at first

    private void deviceAtFirst() {
        book.says(TERMS, "==== 3. THE DEVICE: FLASH: 40 CELLS, BLOCKS 0 to 9 of four; STASH: 20 CELLS (all of both 255 "
                + "at first);");
        PlaceMender x = new PlaceMender();
        for (int i = 0; i < 40; i++) {
            book.due("cell(2, " + i + ")", x.cell(2, i), 255);
            book.due("cell(3, " + i + ")", x.cell(3, i), i < 20 ? 255 : NONE);
        }
        book.due("cell(2, 40)", x.cell(2, 40), NONE);
        for (int b = 0; b < 10; b++) {
            book.due("digest(" + b + ")", x.digest(b), ERASED_DIGEST);
            x.spoil(4 * b + 3, 0);
            book.due("its last cell, digest(" + b + ")", x.digest(b), (4294967040L * 1664525 + 1013904223) % 4294967296L);
            x.undo(1);
            x.spoil(4 * b, 0);
            book.due("its first cell, digest(" + b + ")", x.digest(b), (16777215L * 1664525 + 1013904223) % 4294967296L);
        }
        book.due("digest(10)", x.digest(10), -2);
    }

    private void startAtFirst() {
        book.says(TERMS, "POWER (on); a PATCH (at first one without ACTS); START: FLASH and STASH as that was taken (at "
                + "first, behind burn(): as they are then); STEP (0), known or forgotten; JOURNAL: empty (at first), or "
                + "of a BLOCK and its four new CELLS.");
        PlaceMender x = new PlaceMender();
        book.due("POWER", x.count(8), 1);
        book.due("ACTS", x.count(6), 0);
        book.due("STEP", x.count(7), 0);
        book.due("JOURNAL", x.count(9), NONE);
        book.due("START", x.due(0, 0), ERASED_DIGEST);
        x.spoil(0, 7);
        book.due("START stays", x.due(0, 0), ERASED_DIGEST);
        x.take();
        book.due("START as a patch was taken", x.due(0, 0), x.digest(0));
        Calls.burn(x, "abcd");
        book.due("START behind burn()", x.due(0, 0), x.digest(0));
        // the stash of START is what a 3 reads
        Calls.load(x, 40, 1, 0, 4, 16);
        x.go(1);
        Calls.load(x, 40, 3, 36, 16, 4);
        book.due("STASH of START", x.due(1, 9), x.digest(0));
        x.burn();
        Calls.load(x, 40, 3, 36, 16, 4);
        book.due("STASH behind burn()", x.due(1, 9), ERASED_DIGEST);
        x.cut(2, 0);
        book.due("JOURNAL of a BLOCK", x.count(9), 9);
    }

    // ---- steps

    private void blocksAre(String told, int[] act, int... blocks) {
        PlaceMender x = new PlaceMender();
        int[] bytes = Calls.joined(new int[] {40}, act);
        if (act[0] == 4) {
            bytes = Calls.joined(bytes, new int[act[2]]);
        }
        book.due("how many, " + told, Calls.load(x, bytes), blocks.length);
        for (int s = 0; s < blocks.length; s++) {
            book.due("block of step " + s + ", " + told, x.step(s, 1), blocks[s]);
            book.due("act of step " + s + ", " + told, x.step(s, 0), 0);
        }
    }

    private void stepsOfKinds() {
        book.says(TERMS, "STEPS of ACTS, in order: of a 1 one; of others one for each BLOCK in which it writes:");
        blocksAre("a save of one", new int[] {1, 0, 1, 0}, NONE);
        blocksAre("a save of twenty", new int[] {1, 20, 20, 0}, NONE);
        int[][] places = {{0, 1}, {3, 1}, {0, 4}, {4, 4}, {3, 2}, {0, 5}, {39, 1}, {36, 4}, {35, 5}};
        int[][] blocks = {{0}, {0}, {0}, {1}, {0, 1}, {0, 1}, {9}, {9}, {8, 9}};
        for (int i = 0; i < places.length; i++) {
            int to = places[i][0];
            int length = places[i][1];
            String told = length + " cells to " + to;
            blocksAre("moved, " + told, new int[] {2, to, to, length}, blocks[i]);
            blocksAre("unsaved, " + told, new int[] {3, to, 0, length}, blocks[i]);
            blocksAre("sent, " + told, new int[] {4, to, length}, blocks[i]);
        }
        PlaceMender x = new PlaceMender();
        Calls.load(x, 40, 4, 3, 2, 9, 9, 1, 0, 1, 0, 3, 0, 0, 1);
        int[][] want = {{0, 0}, {0, 1}, {1, NONE}, {2, 0}};
        for (int s = 0; s < 4; s++) {
            book.due("act of step " + s, x.step(s, 0), want[s][0]);
            book.due("block of step " + s, x.step(s, 1), want[s][1]);
        }
    }

    private void stepsUpOrDown() {
        book.says(TERMS, "of a 2 with to above from the highest BLOCK first, of others the lowest first.");
        int[] up = {0, 1, 2, 3, 4, 5, 6, 7, 8, 9};
        int[] down = {9, 8, 7, 6, 5, 4, 3, 2, 1, 0};
        blocksAre("one above from", new int[] {2, 1, 0, 39}, down);
        blocksAre("as from", new int[] {2, 0, 0, 40}, up);
        blocksAre("one below from", new int[] {2, 0, 1, 39}, up);
        blocksAre("an unsave, to above place", new int[] {3, 20, 0, 20}, 5, 6, 7, 8, 9);
        blocksAre("a send", new int[] {4, 1, 39}, up);
    }

    private void stepOfBlock() {
        book.says(TERMS, "In a STEP of a BLOCK all CELLS of it that the ACT writes get what it reads as it is then (2: of "
                + "FLASH, 3: of the STASH, 4: its own), all at once; the others stay.");
        String[] want = {"aabc", "bcdd", "abcd", "aXYd", "abcX", "acdd"};
        int[][] acts = {{2, 1, 0, 3}, {2, 0, 1, 3}, {2, 0, 0, 4}, {4, 1, 2, 'X', 'Y'}, {4, 3, 1, 'X'}, {2, 1, 2, 2}};
        for (int i = 0; i < acts.length; i++) {
            PlaceMender x = Calls.burnt("abcd");
            Calls.load(x, Calls.joined(new int[] {4}, acts[i]));
            x.go(1);
            book.same("block 0 behind act " + i, Calls.flash(x, 0, 4), want[i]);
        }
        PlaceMender x = Calls.with(Calls.distinct(40), new int[0]);
        x.burn();
        Calls.load(x, 40, 2, 1, 0, 39, 2, 0, 1, 39);
        x.go(10);
        for (int i = 0; i < 40; i++) {
            book.due("one up, cell " + i, x.cell(2, i), Math.max(0, i - 1));
        }
        x.go(10);
        for (int i = 0; i < 40; i++) {
            book.due("one down again, cell " + i, x.cell(2, i), Math.min(38, i));
        }
        Calls.load(x, 40, 1, 19, 20, 0, 4, 20, 2, 7, 7, 3, 0, 1, 19);
        x.go(400);
        book.due("saved as it was then, the first", x.cell(2, 0), 20);
        book.due("the last", x.cell(2, 18), 38);
        book.due("behind it", x.cell(2, 19), 19);
    }

    private void phases() {
        book.says(TERMS, "PHASES of a STEP of a BLOCK: JOURNAL has the BLOCK and its new CELLS; the BLOCK is written; "
                + "JOURNAL is empty, STEP is one more.");
        PlaceMender x = Calls.burnt("abcd");
        Calls.load(x, 40, 4, 1, 1, 'X');
        x.go(1);
        book.same("the block", Calls.flash(x, 0, 4), "aXcd");
        book.due("JOURNAL", x.count(9), NONE);
        book.due("STEP", x.count(7), 1);
        x = Calls.burnt("abcd");
        Calls.load(x, 40, 4, 1, 1, 'X');
        x.cut(2, 0);
        // what the journal has comes back, the cells that the act doesn't write too
        x.boot();
        book.same("new cells in JOURNAL", Calls.flash(x, 0, 4), "aXcd");
    }

    private void cutInBlocks() {
        book.says(TERMS, "CUT in PHASE 0: nothing was; 1: JOURNAL is torn (empty); 2: JOURNAL is there, the BLOCK has the "
                + "first c of its new CELLS, the others are 255; 3: the BLOCK is written, JOURNAL is there.");
        String[] torn = {"\377\377\377\377", "a\377\377\377", "aX\377\377", "aXY\377"};
        for (int phase = 0; phase < 4; phase++) {
            for (int c = 0; c < 4; c++) {
                PlaceMender x = Calls.burnt("abcdefgh");
                Calls.load(x, 40, 4, 1, 2, 'X', 'Y');
                x.cut(phase, c);
                String want = phase < 2 ? "abcd" : phase == 2 ? torn[c] : "aXYd";
                book.same("cut(" + phase + ", " + c + ")", Calls.flash(x, 0, 8), want + "efgh");
                book.due("JOURNAL behind cut(" + phase + ", " + c + ")", x.count(9), phase < 2 ? NONE : 0);
                book.due("STEP behind cut(" + phase + ", " + c + ")", x.count(7), 0);
            }
        }
    }

    private void cutInSaves() {
        book.says(TERMS, "Of a STEP of a 1: 0: nothing; 1, 2: c of its CELLS are in the STASH (as many as it has at most), "
                + "the first ones; 3: all are; STEP isn't more. POWER is off then.");
        for (int cells : new int[] {1, 2, 3, 4, 20}) {
            for (int phase = 0; phase < 4; phase++) {
                for (int c = 0; c < 4; c++) {
                    PlaceMender x = Calls.with(Calls.distinct(40), new int[0]);
                    x.burn();
                    Calls.load(x, 40, 1, 20, cells, 20 - cells);
                    x.cut(phase, c);
                    int saved = phase == 0 ? 0 : phase == 3 ? cells : Math.min(c, cells);
                    for (int i = 0; i < 20; i++) {
                        int along = i - 20 + cells;
                        book.due("stash " + i + " behind cut(" + phase + ", " + c + ") of " + cells, x.cell(3, i),
                                along >= 0 && along < saved ? 20 + along : 255);
                    }
                    book.due("STEP", x.count(7), 0);
                    book.due("POWER", x.count(8), 0);
                    book.due("JOURNAL", x.count(9), NONE);
                    book.due("boot()", x.boot(), 0);
                }
            }
        }
    }

    // ---- digests, dues, fits

    private void digests() {
        book.says(TERMS, "DIGEST of four CELLS p, q, r, s: 16777216 p + 65536 q + 256 r + s, times 1664525, 1013904223 "
                + "more, modulo 4294967296.");
        int[][] cells = {{0, 0, 0, 0}, {0, 0, 0, 1}, {0, 0, 1, 0}, {0, 1, 0, 0}, {1, 0, 0, 0}, {255, 255, 255, 255},
            {128, 0, 0, 0}, {127, 255, 255, 255}, {0, 0, 7, 177}, {0, 0, 7, 178}};
        for (int[] four : cells) {
            PlaceMender x = new PlaceMender();
            long word = 0;
            for (int i = 0; i < 4; i++) {
                x.spoil(20 + i, four[i]);
                word = word * 256 + four[i];
            }
            book.due("of " + word, x.digest(5), (word * 1664525 + 1013904223) % 4294967296L);
        }
        PlaceMender x = new PlaceMender();
        book.due("of four 255", x.digest(0), ERASED_DIGEST);
        for (int i = 0; i < 4; i++) {
            x.spoil(i, 0);
        }
        book.due("of four 0", x.digest(0), 1013904223);
        // 1971 times 1664525 and 1013904223 are 4294682998 together, one time more goes around
        x.spoil(2, 1971 / 256);
        x.spoil(3, 1971 % 256);
        book.due("just below the modulus", x.digest(0), 4294682998L);
        x.spoil(3, 1971 % 256 + 1);
        book.due("just above it", x.digest(0), 4294682998L + 1664525 - 4294967296L);
    }

    private void dues() {
        book.says(TERMS, "DUE: what FLASH, STASH are ahead of a STEP (or behind all), from START on without a CUT.");
        PlaceMender x = Calls.burnt("abcdefgh");
        Calls.load(x, 8, 1, 0, 4, 0, 2, 0, 4, 4, 3, 4, 0, 4);
        long first = x.digest(0);
        long second = x.digest(1);
        long[][] want = {{first, second}, {first, second}, {second, second}, {second, first}};
        x.go(1);
        x.cut(2, 2);
        x.spoil(0, 0);
        for (int s = 0; s <= 3; s++) {
            book.due("due(" + s + ", 0)", x.due(s, 0), want[s][0]);
            book.due("due(" + s + ", 1)", x.due(s, 1), want[s][1]);
        }
        book.due("due(4, 0)", x.due(4, 0), -2);
        book.due("without steps, due(0, 0)", new PlaceMender().due(0, 0), ERASED_DIGEST);
    }

    private void needed() {
        book.says(TERMS, "A STASH CELL is NEEDED at a STEP, if a STEP of a 3 (it reads what goes into its BLOCK), this or "
                + "a later one, reads it ahead of any 1 in this or a later STEP writing it.");
        for (int cell : new int[] {0, 1, 18, 19}) {
            PlaceMender x = Calls.burnt("abcd");
            Calls.load(x, 4, 1, 0, 1, cell, 3, 12, cell, 1);
            book.due("at the step of the 1 it isn't, at that of the 3 it is: " + cell, x.fits(2), 1);
            book.due("so 0 fits: " + cell, x.fits(1), 0);
            x.go(1);
            book.due("as it is due at 1, both fit: " + cell, x.fits(1), 1);
        }
        PlaceMender x = Calls.burnt("abcd");
        Calls.load(x, 4, 1, 0, 1, 0, 3, 12, 1, 1);
        book.due("the cell next to it isn't needed", x.fits(1), 2);
        Calls.burn(x, "abcd");
        Calls.load(x, 4, 1, 0, 1, 5, 1, 1, 1, 5);
        book.due("what no 3 reads isn't needed", x.fits(2), 3);
        Calls.burn(x, "abcd");
        Calls.load(x, 4, 1, 0, 1, 5, 1, 1, 1, 5, 3, 12, 5, 1);
        x.go(2);
        book.due("what a later 1 writes isn't needed ahead of it", x.fits(0), 0);
        book.due("at 0, 1 and 2", x.fits(2), 3);
        x.undo(1);
        x.go(1);
        book.due("at 2 what the first one saved doesn't fit", x.fits(1), 1);
    }

    private void neededPerBlock() {
        book.says(TERMS, "(it reads what goes into its BLOCK)");
        PlaceMender x = Calls.burnt("\377\377cdef");
        // stash 0 to 3 go to 14 to 17: the first two in the step of block 3, which changes nothing; then 0 and 1 are
        // saved over, and the cells of block 4 are sent as they were
        Calls.load(x, 6, 1, 0, 4, 0, 3, 14, 0, 4, 1, 4, 2, 0, 4, 16, 2, 255, 255);
        book.due("steps", x.steps(), 5);
        x.go(5);
        book.same("stash", Calls.stash(x, 0, 4), "efcd");
        book.due("0, 2 and 5 fit", x.fits(2), 3);
        book.due("the least", x.fits(0), 0);
        book.due("the greatest", x.fits(1), 5);
    }

    private void fitting() {
        book.says(TERMS, "A number 0 to STEPS FITS, if all BLOCKS have the DIGESTS that are DUE ahead of it, and all NEEDED "
                + "STASH CELLS are as DUE.");
        book.due("without steps, 0 alone", new PlaceMender().fits(2), 1);
        PlaceMender x = Calls.burnt("abcdefgh");
        Calls.load(x, 8, 4, 0, 1, 'X', 4, 36, 1, 'Y', 4, 0, 1, 'Z');
        for (int s = 0; s <= 3; s++) {
            book.due("ahead of " + s + ", the least", x.fits(0), s);
            book.due("ahead of " + s + ", the greatest", x.fits(1), s);
            x.go(1);
        }
        for (int cell : new int[] {0, 7, 20, 39}) {
            int was = x.spoil(cell, 77);
            book.due("spoilt at " + cell, x.fits(2), 0);
            x.spoil(cell, was);
            book.due("mended at " + cell, x.fits(2), 1);
        }
    }

    // ---- booting

    private void bootWithJournal() {
        book.says(TERMS, "To BOOT: JOURNAL, if it is there: unless the BLOCK has the DIGEST of its CELLS, it is written so; "
                + "STEP, if known, is one more; JOURNAL is empty.");
        for (int phase = 0; phase < 4; phase++) {
            PlaceMender x = Calls.burnt("abcd");
            Calls.load(x, 40, 4, 0, 4, 'W', 'X', 'Y', 'Z', 4, 0, 1, 'Q');
            x.cut(phase, 1);
            book.due("STEP behind a cut in " + phase, x.boot(), phase < 2 ? 0 : 1);
            book.same("the block", Calls.flash(x, 0, 4), phase < 2 ? "abcd" : "WXYZ");
            book.due("JOURNAL", x.count(9), NONE);
            book.due("POWER", x.count(8), 1);
        }
        for (int cell = 0; cell < 4; cell++) {
            PlaceMender x = Calls.burnt("abcd");
            Calls.load(x, 40, 4, 0, 4, 'W', 'X', 'Y', 'Z');
            x.cut(3, 0);
            x.spoil(cell, 0);
            x.boot();
            book.same("spoilt at " + cell + ", written again", Calls.flash(x, 0, 4), "WXYZ");
        }
        PlaceMender x = Calls.burnt("abcd");
        Calls.load(x, 40, 4, 0, 4, 'W', 'X', 'Y', 'Z');
        x.cut(1, 0);
        x.spoil(0, 0);
        x.boot();
        book.same("without JOURNAL it stays spoilt", Calls.flash(x, 0, 4), "\0bcd");
    }

    private void bootForgotten() {
        book.says(TERMS, "STEP, if forgotten, is the least that FITS then. POWER is on.");
        PlaceMender x = Calls.burnt("abcd");
        Calls.load(x, Calls.patchOf(36, 2, 0, 0, 40));
        x.go(359);
        x.cut(3, 0);
        x.forget();
        book.due("all fit: the least", x.boot(), 0);
        book.due("POWER", x.count(8), 1);
        x = Calls.burnt("abcd");
        Calls.load(x, 40, 2, 0, 0, 4, 4, 0, 1, 'X', 2, 0, 0, 4);
        x.go(1);
        x.cut(2, 0);
        x.forget();
        book.due("behind JOURNAL 2 and 3 fit", x.boot(), 2);
        book.due("fits(1)", x.fits(1), 3);
        x = Calls.burnt("abcd");
        Calls.load(x, 40, 4, 0, 1, 'X');
        x.cut(3, 0);
        x.forget();
        book.due("the greatest there is", x.boot(), 1);
    }

    private void cuts() {
        book.says(TERMS, "CUTS: on paper, from START: all STEPS, in each of these all four PHASES with c 2: POWER is CUT "
                + "there, BOOT, then all STEPS that are left.");
        PlaceMender x = Calls.burnt("abcd");
        int[] acts = {0, 1, 35, 36};
        for (int many : acts) {
            Calls.load(x, Calls.patchOf(many, 4, 0, 1, 'X'));
            book.due("CUTS of " + many + " steps", x.cuts(0), 4 * many);
            book.due("as due behind " + many + " steps", x.cuts(1), 4 * many);
        }
        x = Calls.burnt("abc");
        Calls.load(x, 40, 2, 0, 2, 1);
        book.due("with c 2 the third cell is erased", x.cuts(3), 3);
        x = Calls.burnt("ab");
        Calls.load(x, 40, 2, 0, 1, 1);
        book.due("with c 2 the second isn't", x.cuts(3), 4);
        book.due("the device stays", x.count(7) + x.cell(2, 0), 'a');
        book.due("nothing to undo", x.count(10), 2);
    }

    // ---- undoing, images

    private static void working(PlaceMender x) {
        Calls.set(x, "abcdefgh", "efghabcd");
        x.burn();
        x.take();
        x.go(1);
    }

    private void undoneIs(String call, Sentences.Setup ahead, Sentences.Call done) {
        book.alike(call + " is undone", x -> {
            ahead.on(x);
            int could = x.count(10);
            done.on(x);
            book.due("it can be, " + call, x.count(10), could + 1);
            book.due("undo(1) of " + call, x.undo(1), could);
        }, ahead);
    }

    private void undone() {
        book.says(TERMS, "Calls that did some to THE DEVICE (burn(), take(), load(), cut(), forget(), boot(), spoil() that "
                + "aren't refused; go() of one STEP at least) can be UNDONE each as a whole,");
        Sentences.Setup torn = x -> {
            working(x);
            x.cut(2, 1);
        };
        Sentences.Setup forgotten = x -> {
            torn.on(x);
            x.forget();
        };
        undoneIs("burn()", DeviceTermsBoundaries::working, PlaceMender::burn);
        undoneIs("burn() without power", forgotten, PlaceMender::burn);
        undoneIs("take()", DeviceTermsBoundaries::working, PlaceMender::take);
        undoneIs("load()", DeviceTermsBoundaries::working, x -> Calls.load(x, 40, 4, 0, 1, 9));
        undoneIs("load() of no acts", DeviceTermsBoundaries::working, x -> Calls.load(x, 0));
        undoneIs("forget()", torn, PlaceMender::forget);
        undoneIs("boot()", torn, PlaceMender::boot);
        undoneIs("boot(), forgotten", forgotten, PlaceMender::boot);
        undoneIs("spoil()", torn, x -> x.spoil(39, 0));
        undoneIs("spoil() of what it was", torn, x -> x.spoil(39, 255));
        undoneIs("go() of one step", DeviceTermsBoundaries::working, x -> x.go(1));
        undoneIs("go() of all steps", DeviceTermsBoundaries::working, x -> x.go(400));
        for (int phase = 0; phase < 4; phase++) {
            int in = phase;
            undoneIs("cut(" + phase + ", 3)", DeviceTermsBoundaries::working, x -> x.cut(in, 3));
        }
    }

    private void notUndone() {
        book.says(TERMS, "that aren't refused; go() of one STEP at least)");
        Sentences.Setup all = x -> {
            working(x);
            x.go(400);
        };
        book.refused(all, "go() of no step", 0, x -> x.go(1));
        Sentences.Call[] calls = {PlaceMender::forget, PlaceMender::boot, x -> x.cut(0, 0), x -> x.spoil(40, 0),
            x -> x.go(0), x -> x.load(1), x -> x.load(0), x -> x.terms(3, 9), x -> x.image(0), x -> x.feed(1, 2, 3, 4, 5),
            x -> x.fresh(0), x -> x.old(0), x -> x.cuts(3), x -> x.twice(2, 2)};
        for (int i = 0; i < calls.length; i++) {
            PlaceMender x = Sentences.made(all);
            calls[i].on(x);
            book.due("call " + i + " can't be undone", x.count(10), 4);
        }
        PlaceMender x = Sentences.made(DeviceTermsBoundaries::working);
        x.terms(3, 9);
        Calls.feed(x, 1, 2, 3);
        x.old(3);
        x.spoil(0, 0);
        x.undo(1);
        book.due("OLD stays", x.count(0), 3);
        book.due("TERMS stay", x.count(5), 9);
    }

    private void mostUndone() {
        book.says(TERMS, "the latest first, 10 at most (eldest are forgotten): all of THE DEVICE.");
        for (int calls : new int[] {0, 1, 9, 10, 11, 20, 21, 30}) {
            PlaceMender x = new PlaceMender();
            for (int i = 0; i < calls; i++) {
                x.spoil(0, 100 + i);
            }
            int can = Math.min(calls, 10);
            book.due("behind " + calls + " calls", x.count(10), can);
            book.due("one more", x.undo(can + 1), -3);
            for (int n = 1; n <= can; n++) {
                book.due("undo(1)", x.undo(1), can - n);
                book.due("the latest first", x.cell(2, 0), n == calls ? 255 : 100 + calls - n - 1);
            }
            book.due("none is left", x.undo(1), -3);
            x.spoil(0, 1);
            book.due("another one", x.count(10), 1);
        }
    }

    private void images() {
        book.says(TERMS, "IMAGES 0 to 1: OLD, NEW, TERMS, THE DEVICE (none at first); nothing can be UNDONE behind.");
        PlaceMender x = new PlaceMender();
        book.due("image 0 at first", x.restore(0), -5);
        book.due("image 1 at first", x.restore(1), -5);
        book.due("image(-1)", x.image(-1), -2);
        book.due("image(2)", x.image(2), -2);
        working(x);
        x.terms(3, 20);
        x.image(1);
        Calls.set(x, "xyz", "x");
        x.terms(3, 0);
        x.burn();
        Calls.feed(x, 1);
        book.due("restore(1)", x.restore(1), 0);
        int[] want = {8, 8, 3, 0, 0, 20, 3, 1, 1, NONE, 0, 20};
        for (int what = 0; what < want.length; what++) {
            book.due("count(" + what + ")", x.count(what), want[what]);
        }
        book.due("nothing can be undone", x.undo(1), -3);
        x.go(1);
        book.due("but what comes then", x.undo(1), 0);
        book.due("to where the image was", x.count(7), 1);
    }

    // ---- of all calls

    private void codes() {
        book.says(TERMS, "Refused calls answer by a code and change nothing: -2 there is none such; -3 a number can't be; "
                + "-5 it can't be now; -30 less the FAULT: a PATCH.");
        Sentences.Setup full = x -> {
            working(x);
            x.image(0);
            x.cut(2, 2);
            Calls.feed(x, Calls.filled(160, 7));
        };
        book.refused(full, "feed", -5, x -> x.feed(0, 0, 0, 0, 0));
        book.refused(full, "old", -3, x -> x.old(41));
        book.refused(full, "fresh", -3, x -> x.fresh(-1));
        book.refused(full, "terms, what", -2, x -> x.terms(4, 0));
        book.refused(full, "terms, v", -3, x -> x.terms(0, 9));
        book.refused(full, "take", -5, PlaceMender::take);
        book.refused(full, "load", -5, x -> x.load(160));
        book.refused(full, "load, n", -3, x -> x.load(161));
        book.refused(full, "go", -5, x -> x.go(1));
        book.refused(full, "cut", -5, x -> x.cut(0, 0));
        book.refused(full, "spoil, the cell", -2, x -> x.spoil(40, 0));
        book.refused(full, "spoil, v", -3, x -> x.spoil(0, 256));
        book.refused(full, "undo", -3, x -> x.undo(5));
        book.refused(full, "image", -2, x -> x.image(2));
        book.refused(full, "restore", -2, x -> x.restore(2));
        book.refused(full, "restore of none", -5, x -> x.restore(1));
        int[][] patches = {{40, 9}, {40, 1}, {41}, Calls.joined(Calls.patchOf(36, 1, 0, 1, 0), 1)};
        for (int fault = 1; fault <= 4; fault++) {
            PlaceMender x = new PlaceMender();
            book.due("fault " + fault, Calls.load(x, patches[fault - 1]), -30 - fault);
            book.due("nothing is taken", x.count(6) + x.count(10) + x.steps(), 0);
        }
    }

    private void toldFirst() {
        book.says(TERMS, "(Of several that which the call tells first; all these ahead of NONE.)");
        PlaceMender x = Sentences.made(DeviceTermsBoundaries::working);
        x.cut(2, 2);
        book.due("terms(4, 99): what", x.terms(4, 99), -2);
        book.due("ring(9, -2): the command", x.ring(9, -2), -2);
        book.due("load(1) of none without power: n", x.load(1), -3);
        book.due("go(0) without power: n", x.go(0), -3);
        book.due("cut(4, 0) without power: phase", x.cut(4, 0), -3);
        book.due("spoil(40, 256): the cell", x.spoil(40, 256), -2);
        book.due("restore(2), none was made: i", x.restore(2), -2);
        PlaceMender none = new PlaceMender();
        book.due("cell(4, -1)", none.cell(4, -1), -2);
        book.due("widest(3)", none.widest(3), -2);
        book.due("hazard(2)", none.hazard(2), -2);
        book.due("odds(0, 0)", none.odds(0, 0), -2);
        none.spoil(0, 0);
        book.due("fits(3)", none.fits(3), -2);
        PlaceMender add = Calls.with("", "abc");
        book.due("run(0, 3)", add.run(0, 3), -2);
        book.due("command(0, 5)", add.command(0, 5), -2);
        book.due("ring(0, -2) of one in no ring", add.ring(0, -2), -3);
        book.due("act(0, 3)", add.act(0, 3), -2);
        PlaceMender save = new PlaceMender();
        Calls.load(save, 40, 1, 0, 1, 0);
        book.due("step(0, 3)", save.step(0, 3), -2);
    }

    private void manyCalls() {
        book.says(TERMS, "An object is used for at most 512 calls after it has been made; what later calls answer is free.");
        PlaceMender x = new PlaceMender();
        for (int i = 1; i <= 511; i++) {
            book.due("call " + i, x.spoil(39, i % 256), i == 1 ? 255 : (i - 1) % 256);
        }
        book.due("call 512", x.cell(2, 39), 511 % 256);
        PlaceMender y = Samples.twenty();
        for (int i = 7; i < 512; i++) {
            y.terms(3, i % 21);
        }
        // six calls made it; by a budget of 7 one of its copies is saved
        book.due("call 512 of another one", y.plan(3), 1 + 13 * 4);
    }
}
