/** The boundaries that the terms of the device name (part 3 of "Terms"): its steps, cuts, digests, booting. */
final class DeviceTermsBoundaries {
    private static final int NONE = PlaceMender.NONE;
    private static final int TERMS = Sentences.TERMS;
    private static final long ERASED_DIGEST = 1012239698L;

    private final Sentences book;

    DeviceTermsBoundaries(Sentences book) {
        this.book = book;
    }

    void all() {
        deviceAtFirst();
        startAtFirst();
        stepsOfKinds();
        stepsUpOrDown();
        stepOfBlock();
        phases();
        cutInBlocks();
        cutInSaves();
        digests();
        dues();
        needed();
        neededMeanwhile();
        neededPerBlock();
        fitting();
        bootWithJournal();
        bootForgotten();
        cuts();
    }

    // ---- what there is at first

    private void deviceAtFirst() {
        book.says(TERMS, "==== 3. THE DEVICE: FLASH: 40 CELLS, BLOCKS 0 to 9 of four; STASH: 20 CELLS (all of both 255 "
                + "at first);");
        PlaceMender x = new PlaceMender();
        for (int i = 0; i < 40; i++) {
            book.due("cell(2, " + i + ")", x.cell(2, i), 255);
            book.due("cell(3, " + i + ")", x.cell(3, i), i < 20 ? 255 : NONE);
        }
        book.due("cell(2, 40)", x.cell(2, 40), NONE);
        for (int b = 0; b < 10; b++) {
            book.due("digest(" + b + ")", x.digest(b), ERASED_DIGEST);
            x.spoil(4 * b + 3, 0);
            book.due("its last cell, digest(" + b + ")", x.digest(b), (4294967040L * 1664525 + 1013904223) % 4294967296L);
            x.undo(1);
            x.spoil(4 * b, 0);
            book.due("its first cell, digest(" + b + ")", x.digest(b), (16777215L * 1664525 + 1013904223) % 4294967296L);
        }
        book.due("digest(10)", x.digest(10), -2);
    }

    private void startAtFirst() {
        book.says(TERMS, "POWER (on); a PATCH (at first one without ACTS); START: FLASH and STASH as that was taken (at "
                + "first, behind burn(): as they are then); STEP (0), known or forgotten; JOURNAL: empty (at first), or "
                + "of a BLOCK and its four new CELLS.");
        PlaceMender x = new PlaceMender();
        book.due("POWER", x.count(8), 1);
        book.due("ACTS", x.count(6), 0);
        book.due("STEP", x.count(7), 0);
        book.due("JOURNAL", x.count(9), NONE);
        book.due("START", x.due(0, 0), ERASED_DIGEST);
        x.spoil(0, 7);
        book.due("START stays", x.due(0, 0), ERASED_DIGEST);
        x.take();
        book.due("START as a patch was taken", x.due(0, 0), x.digest(0));
        Calls.burn(x, "abcd");
        book.due("START behind burn()", x.due(0, 0), x.digest(0));
        // the stash of START is what a 3 reads
        Calls.load(x, 40, 1, 0, 4, 16);
        x.go(1);
        Calls.load(x, 40, 3, 36, 16, 4);
        book.due("STASH of START", x.due(1, 9), x.digest(0));
        x.burn();
        Calls.load(x, 40, 3, 36, 16, 4);
        book.due("STASH behind burn()", x.due(1, 9), ERASED_DIGEST);
        x.cut(2, 0);
        book.due("JOURNAL of a BLOCK", x.count(9), 9);
    }

    // ---- steps

    private void blocksAre(String told, int[] act, int... blocks) {
        PlaceMender x = new PlaceMender();
        int[] bytes = Calls.joined(new int[] {40}, act);
        if (act[0] == 4) {
            bytes = Calls.joined(bytes, new int[act[2]]);
        }
        book.due("how many, " + told, Calls.load(x, bytes), blocks.length);
        for (int s = 0; s < blocks.length; s++) {
            book.due("block of step " + s + ", " + told, x.step(s, 1), blocks[s]);
            book.due("act of step " + s + ", " + told, x.step(s, 0), 0);
        }
    }

    private void stepsOfKinds() {
        book.says(TERMS, "STEPS of ACTS, in order: of a 1 one; of others one for each BLOCK in which it writes:");
        blocksAre("a save of one", new int[] {1, 0, 1, 0}, NONE);
        blocksAre("a save of twenty", new int[] {1, 20, 20, 0}, NONE);
        int[][] places = {{0, 1}, {3, 1}, {0, 4}, {4, 4}, {3, 2}, {0, 5}, {39, 1}, {36, 4}, {35, 5}};
        int[][] blocks = {{0}, {0}, {0}, {1}, {0, 1}, {0, 1}, {9}, {9}, {8, 9}};
        for (int i = 0; i < places.length; i++) {
            int to = places[i][0];
            int length = places[i][1];
            String told = length + " cells to " + to;
            blocksAre("moved, " + told, new int[] {2, to, to, length}, blocks[i]);
            blocksAre("unsaved, " + told, new int[] {3, to, 0, length}, blocks[i]);
            blocksAre("sent, " + told, new int[] {4, to, length}, blocks[i]);
        }
        PlaceMender x = new PlaceMender();
        Calls.load(x, 40, 4, 3, 2, 9, 9, 1, 0, 1, 0, 3, 0, 0, 1);
        int[][] want = {{0, 0}, {0, 1}, {1, NONE}, {2, 0}};
        for (int s = 0; s < 4; s++) {
            book.due("act of step " + s, x.step(s, 0), want[s][0]);
            book.due("block of step " + s, x.step(s, 1), want[s][1]);
        }
    }

    private void stepsUpOrDown() {
        book.says(TERMS, "of a 2 with to above from the highest BLOCK first, of others the lowest first.");
        int[] up = {0, 1, 2, 3, 4, 5, 6, 7, 8, 9};
        int[] down = {9, 8, 7, 6, 5, 4, 3, 2, 1, 0};
        blocksAre("one above from", new int[] {2, 1, 0, 39}, down);
        blocksAre("as from", new int[] {2, 0, 0, 40}, up);
        blocksAre("one below from", new int[] {2, 0, 1, 39}, up);
        blocksAre("an unsave, to above place", new int[] {3, 20, 0, 20}, 5, 6, 7, 8, 9);
        blocksAre("a send", new int[] {4, 1, 39}, up);
    }

    private void stepOfBlock() {
        book.says(TERMS, "In a STEP of a BLOCK all CELLS of it that the ACT writes get what it reads as it is then (2: of "
                + "FLASH, 3: of the STASH, 4: its own), all at once; the others stay.");
        String[] want = {"aabc", "bcdd", "abcd", "aXYd", "abcX", "acdd"};
        int[][] acts = {{2, 1, 0, 3}, {2, 0, 1, 3}, {2, 0, 0, 4}, {4, 1, 2, 'X', 'Y'}, {4, 3, 1, 'X'}, {2, 1, 2, 2}};
        for (int i = 0; i < acts.length; i++) {
            PlaceMender x = Calls.burnt("abcd");
            Calls.load(x, Calls.joined(new int[] {4}, acts[i]));
            x.go(1);
            book.same("block 0 behind act " + i, Calls.flash(x, 0, 4), want[i]);
        }
        PlaceMender x = Calls.with(Calls.distinct(40), new int[0]);
        x.burn();
        Calls.load(x, 40, 2, 1, 0, 39, 2, 0, 1, 39);
        x.go(10);
        for (int i = 0; i < 40; i++) {
            book.due("one up, cell " + i, x.cell(2, i), Math.max(0, i - 1));
        }
        x.go(10);
        for (int i = 0; i < 40; i++) {
            book.due("one down again, cell " + i, x.cell(2, i), Math.min(38, i));
        }
        Calls.load(x, 40, 1, 19, 20, 0, 4, 20, 2, 7, 7, 3, 0, 1, 19);
        x.go(400);
        book.due("saved as it was then, the first", x.cell(2, 0), 20);
        book.due("the last", x.cell(2, 18), 38);
        book.due("behind it", x.cell(2, 19), 19);
    }

    private void phases() {
        book.says(TERMS, "PHASES of a STEP of a BLOCK: JOURNAL has the BLOCK and its new CELLS; the BLOCK is written; "
                + "JOURNAL is empty, STEP is one more.");
        PlaceMender x = Calls.burnt("abcd");
        Calls.load(x, 40, 4, 1, 1, 'X');
        x.go(1);
        book.same("the block", Calls.flash(x, 0, 4), "aXcd");
        book.due("JOURNAL", x.count(9), NONE);
        book.due("STEP", x.count(7), 1);
        x = Calls.burnt("abcd");
        Calls.load(x, 40, 4, 1, 1, 'X');
        x.cut(2, 0);
        // what the journal has comes back, the cells that the act doesn't write too
        x.boot();
        book.same("new cells in JOURNAL", Calls.flash(x, 0, 4), "aXcd");
    }

    private void cutInBlocks() {
        book.says(TERMS, "CUT in PHASE 0: nothing was; 1: JOURNAL is torn (empty); 2: JOURNAL is there, the BLOCK has the "
                + "first c of its new CELLS, the others are 255; 3: the BLOCK is written, JOURNAL is there.");
        String[] torn = {"\377\377\377\377", "a\377\377\377", "aX\377\377", "aXY\377"};
        for (int phase = 0; phase < 4; phase++) {
            for (int c = 0; c < 4; c++) {
                PlaceMender x = Calls.burnt("abcdefgh");
                Calls.load(x, 40, 4, 1, 2, 'X', 'Y');
                x.cut(phase, c);
                String want = phase < 2 ? "abcd" : phase == 2 ? torn[c] : "aXYd";
                book.same("cut(" + phase + ", " + c + ")", Calls.flash(x, 0, 8), want + "efgh");
                book.due("JOURNAL behind cut(" + phase + ", " + c + ")", x.count(9), phase < 2 ? NONE : 0);
                book.due("STEP behind cut(" + phase + ", " + c + ")", x.count(7), 0);
            }
        }
    }

    private void cutInSaves() {
        book.says(TERMS, "Of a STEP of a 1: 0: nothing; 1, 2: c of its CELLS are in the STASH (as many as it has at most), "
                + "the first ones; 3: all are; STEP isn't more. POWER is off then.");
        for (int cells : new int[] {1, 2, 3, 4, 20}) {
            for (int phase = 0; phase < 4; phase++) {
                for (int c = 0; c < 4; c++) {
                    PlaceMender x = Calls.with(Calls.distinct(40), new int[0]);
                    x.burn();
                    Calls.load(x, 40, 1, 20, cells, 20 - cells);
                    x.cut(phase, c);
                    int saved = phase == 0 ? 0 : phase == 3 ? cells : Math.min(c, cells);
                    for (int i = 0; i < 20; i++) {
                        int along = i - 20 + cells;
                        book.due("stash " + i + " behind cut(" + phase + ", " + c + ") of " + cells, x.cell(3, i),
                                along >= 0 && along < saved ? 20 + along : 255);
                    }
                    book.due("STEP", x.count(7), 0);
                    book.due("POWER", x.count(8), 0);
                    book.due("JOURNAL", x.count(9), NONE);
                    book.due("boot()", x.boot(), 0);
                }
            }
        }
    }

    // ---- digests, dues, fits

    private void digests() {
        book.says(TERMS, "DIGEST of four CELLS p, q, r, s: 16777216 p + 65536 q + 256 r + s, times 1664525, 1013904223 "
                + "more, modulo 4294967296.");
        int[][] cells = {{0, 0, 0, 0}, {0, 0, 0, 1}, {0, 0, 1, 0}, {0, 1, 0, 0}, {1, 0, 0, 0}, {255, 255, 255, 255},
            {128, 0, 0, 0}, {127, 255, 255, 255}, {0, 0, 7, 177}, {0, 0, 7, 178}};
        for (int[] four : cells) {
            PlaceMender x = new PlaceMender();
            long word = 0;
            for (int i = 0; i < 4; i++) {
                x.spoil(20 + i, four[i]);
                word = word * 256 + four[i];
            }
            book.due("of " + word, x.digest(5), (word * 1664525 + 1013904223) % 4294967296L);
        }
        PlaceMender x = new PlaceMender();
        book.due("of four 255", x.digest(0), ERASED_DIGEST);
        for (int i = 0; i < 4; i++) {
            x.spoil(i, 0);
        }
        book.due("of four 0", x.digest(0), 1013904223);
        // 1971 times 1664525 and 1013904223 are 4294682998 together, one time more goes around
        x.spoil(2, 1971 / 256);
        x.spoil(3, 1971 % 256);
        book.due("just below the modulus", x.digest(0), 4294682998L);
        x.spoil(3, 1971 % 256 + 1);
        book.due("just above it", x.digest(0), 4294682998L + 1664525 - 4294967296L);
    }

    private void dues() {
        book.says(TERMS, "DUE: what FLASH, STASH are ahead of a STEP (or behind all), from START on without a CUT.");
        PlaceMender x = Calls.burnt("abcdefgh");
        Calls.load(x, 8, 1, 0, 4, 0, 2, 0, 4, 4, 3, 4, 0, 4);
        long first = x.digest(0);
        long second = x.digest(1);
        long[][] want = {{first, second}, {first, second}, {second, second}, {second, first}};
        x.go(1);
        x.cut(2, 2);
        x.spoil(0, 0);
        for (int s = 0; s <= 3; s++) {
            book.due("due(" + s + ", 0)", x.due(s, 0), want[s][0]);
            book.due("due(" + s + ", 1)", x.due(s, 1), want[s][1]);
        }
        book.due("due(4, 0)", x.due(4, 0), -2);
        book.due("without steps, due(0, 0)", new PlaceMender().due(0, 0), ERASED_DIGEST);
    }

    private void needed() {
        book.says(TERMS, "A STASH CELL is NEEDED at a STEP, if a STEP of a 3 (it reads what goes into its BLOCK), this or "
                + "a later one, reads it ahead of any 1 in this or a later STEP writing it.");
        for (int cell : new int[] {0, 1, 18, 19}) {
            PlaceMender x = Calls.burnt("abcd");
            Calls.load(x, 4, 1, 0, 1, cell, 3, 12, cell, 1);
            book.due("at the step of the 1 it isn't, at that of the 3 it is: " + cell, x.fits(2), 1);
            book.due("so 0 fits: " + cell, x.fits(1), 0);
            x.go(1);
            book.due("as it is due at 1, both fit: " + cell, x.fits(1), 1);
        }
        PlaceMender x = Calls.burnt("abcd");
        Calls.load(x, 4, 1, 0, 1, 0, 3, 12, 1, 1);
        book.due("the cell next to it isn't needed", x.fits(1), 2);
        Calls.burn(x, "abcd");
        Calls.load(x, 4, 1, 0, 1, 5, 1, 1, 1, 5);
        book.due("what no 3 reads isn't needed", x.fits(2), 3);
        Calls.burn(x, "abcd");
        Calls.load(x, 4, 1, 0, 1, 5, 1, 1, 1, 5, 3, 12, 5, 1);
        x.go(2);
        book.due("what a later 1 writes isn't needed ahead of it", x.fits(0), 0);
        book.due("at 0, 1 and 2", x.fits(2), 3);
        x.undo(1);
        x.go(1);
        book.due("at 2 what the first one saved doesn't fit", x.fits(1), 1);
    }

    private void neededMeanwhile() {
        book.says(TERMS, "this or a later one, reads it ahead of any 1 in this or a later STEP writing it.");
        // flash never changes, so that only the stash tells the numbers apart
        PlaceMender x = Calls.burnt("abcd");
        Calls.load(x, 4, 1, 0, 1, 0, 4, 39, 1, 255, 3, 12, 0, 1);
        book.due("in a step between the 1 and the 3", x.fits(2), 1);
        x = Calls.burnt("abcd");
        Calls.load(x, 4, 3, 12, 0, 1, 1, 0, 1, 0);
        x.go(2);
        book.due("in the step of a 3 that is the first", x.fits(0), 1);
        book.due("behind it no more", x.fits(2), 2);
        Calls.burn(x, "abcd");
        Calls.load(x, 4, 1, 0, 1, 0);
        x.go(1);
        book.due("not in the first step, where it was of another patch", x.fits(0), 0);
        x = Calls.burnt("abcd");
        Calls.load(x, 4, 1, 0, 1, 0, 3, 12, 0, 1);
        x.steps();
        Calls.burn(x, "abcd");
        Calls.load(x, 4, 1, 0, 1, 0);
        book.due("not behind all, where it was of another patch", x.fits(1), 1);
        x = Calls.burnt("abcd");
        Calls.load(x, 4, 1, 0, 1, 2, 3, 12, 1, 1);
        book.due("the cell behind the last that is read isn't", x.fits(2), 3);
        x = Calls.burnt("abcd");
        Calls.load(x, 4, 1, 0, 1, 2, 3, 12, 3, 1);
        book.due("the cell ahead of the first that is read isn't", x.fits(2), 3);
    }

    private void neededPerBlock() {
        book.says(TERMS, "(it reads what goes into its BLOCK)");
        PlaceMender x = Calls.burnt("\377\377cdef");
        // stash 0 to 3 go to 14 to 17: the first two in the step of block 3, which changes nothing; then 0 and 1 are
        // saved over, and the cells of block 4 are sent as they were
        Calls.load(x, 6, 1, 0, 4, 0, 3, 14, 0, 4, 1, 4, 2, 0, 4, 16, 2, 255, 255);
        book.due("steps", x.steps(), 5);
        x.go(5);
        book.same("stash", Calls.stash(x, 0, 4), "efcd");
        book.due("0, 2 and 5 fit", x.fits(2), 3);
        book.due("the least", x.fits(0), 0);
        book.due("the greatest", x.fits(1), 5);
    }

    private void fitting() {
        book.says(TERMS, "A number 0 to STEPS FITS, if all BLOCKS have the DIGESTS that are DUE ahead of it, and all NEEDED "
                + "STASH CELLS are as DUE.");
        book.due("without steps, 0 alone", new PlaceMender().fits(2), 1);
        PlaceMender x = Calls.burnt("abcdefgh");
        Calls.load(x, 8, 4, 0, 1, 'X', 4, 36, 1, 'Y', 4, 0, 1, 'Z');
        for (int s = 0; s <= 3; s++) {
            book.due("ahead of " + s + ", the least", x.fits(0), s);
            book.due("ahead of " + s + ", the greatest", x.fits(1), s);
            x.go(1);
        }
        for (int cell : new int[] {0, 7, 20, 39}) {
            int was = x.spoil(cell, 77);
            book.due("spoilt at " + cell, x.fits(2), 0);
            x.spoil(cell, was);
            book.due("mended at " + cell, x.fits(2), 1);
        }
    }

    // ---- booting

    private void bootWithJournal() {
        book.says(TERMS, "To BOOT: JOURNAL, if it is there: unless the BLOCK has the DIGEST of its CELLS, it is written so; "
                + "STEP, if known, is one more; JOURNAL is empty.");
        for (int phase = 0; phase < 4; phase++) {
            PlaceMender x = Calls.burnt("abcd");
            Calls.load(x, 40, 4, 0, 4, 'W', 'X', 'Y', 'Z', 4, 0, 1, 'Q');
            x.cut(phase, 1);
            book.due("STEP behind a cut in " + phase, x.boot(), phase < 2 ? 0 : 1);
            book.same("the block", Calls.flash(x, 0, 4), phase < 2 ? "abcd" : "WXYZ");
            book.due("JOURNAL", x.count(9), NONE);
            book.due("POWER", x.count(8), 1);
        }
        for (int cell = 0; cell < 4; cell++) {
            PlaceMender x = Calls.burnt("abcd");
            Calls.load(x, 40, 4, 0, 4, 'W', 'X', 'Y', 'Z');
            x.cut(3, 0);
            x.spoil(cell, 0);
            x.boot();
            book.same("spoilt at " + cell + ", written again", Calls.flash(x, 0, 4), "WXYZ");
        }
        PlaceMender x = Calls.burnt("abcd");
        Calls.load(x, 40, 4, 0, 4, 'W', 'X', 'Y', 'Z');
        x.cut(1, 0);
        x.spoil(0, 0);
        x.boot();
        book.same("without JOURNAL it stays spoilt", Calls.flash(x, 0, 4), "\0bcd");
    }

    private void bootForgotten() {
        book.says(TERMS, "STEP, if forgotten, is the least that FITS then. POWER is on.");
        PlaceMender x = Calls.burnt("abcd");
        Calls.load(x, Calls.patchOf(36, 2, 0, 0, 40));
        x.go(359);
        x.cut(3, 0);
        x.forget();
        book.due("all fit: the least", x.boot(), 0);
        book.due("POWER", x.count(8), 1);
        x = Calls.burnt("abcd");
        Calls.load(x, 40, 2, 0, 0, 4, 4, 0, 1, 'X', 2, 0, 0, 4);
        x.go(1);
        x.cut(2, 0);
        x.forget();
        book.due("behind JOURNAL 2 and 3 fit", x.boot(), 2);
        book.due("fits(1)", x.fits(1), 3);
        x = Calls.burnt("abcd");
        Calls.load(x, 40, 4, 0, 1, 'X');
        x.cut(3, 0);
        x.forget();
        book.due("the greatest there is", x.boot(), 1);
    }

    private void cuts() {
        book.says(TERMS, "CUTS: on paper, from START: all STEPS, in each of these all four PHASES with c 2: POWER is CUT "
                + "there, BOOT, then all STEPS that are left.");
        PlaceMender x = Calls.burnt("abcd");
        int[] acts = {0, 1, 35, 36};
        for (int many : acts) {
            Calls.load(x, Calls.patchOf(many, 4, 0, 1, 'X'));
            book.due("CUTS of " + many + " steps", x.cuts(0), 4 * many);
            book.due("as due behind " + many + " steps", x.cuts(1), 4 * many);
        }
        x = Calls.burnt("abc");
        Calls.load(x, 40, 2, 0, 2, 1);
        book.due("with c 2 the third cell is erased", x.cuts(3), 3);
        x = Calls.burnt("ab");
        Calls.load(x, 40, 2, 0, 1, 1);
        book.due("with c 2 the second isn't", x.cuts(3), 4);
        book.due("the device stays", x.count(7) + x.cell(2, 0), 'a');
        book.due("nothing to undo", x.count(10), 2);
    }
}
