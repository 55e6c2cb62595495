import java.util.Arrays;

/** The boundaries that promises 28 to 33 name: burning, taking and loading patches, their faults and steps. */
final class PatchBoundaries {
    private static final int NONE = PlaceMender.NONE;
    private static final int LEAST_INT = Integer.MIN_VALUE;
    private static final int MOST_INT = Integer.MAX_VALUE;
    // one act of each kind; it may end behind each of them
    private static final int[] EACH_KIND = {40, 1, 0, 1, 0, 2, 0, 0, 1, 3, 0, 0, 1, 4, 0, 2, 7, 7};
    private static final int[] ENDS = {1, 5, 9, 13, 18};

    private final Sentences book;

    PatchBoundaries(Sentences book) {
        this.book = book;
    }

    void all() {
        burn();
        burnOfAll();
        take();
        takeRefused();
        load();
        loadRefused();
        firstFault();
        codes();
        earlyEnds();
        numbersOfSaves();
        numbersOfMoves();
        numbersOfUnsaves();
        numbersOfSends();
        thirtySevenActs();
        fault();
        steps();
        step();
        otherCells();
    }

    /** A device in the middle of a patch, its power off, a block half written. */
    private static void halfway(PlaceMender x) {
        Calls.set(x, "abcdefgh", "efghabcd");
        x.burn();
        x.take();
        x.go(1);
        x.cut(2, 1);
    }

    // ---- 28, 29

    private void burn() {
        book.says(28, "FLASH is OLD, 255 behind it;");
        for (int size : new int[] {0, 1, 39, 40}) {
            PlaceMender x = new PlaceMender();
            for (int i = 0; i < 40; i++) {
                x.spoil(i, 111);
            }
            Calls.setOld(x, Calls.distinct(size));
            book.due("burn() of " + size, x.burn(), 0);
            for (int i = 0; i < 40; i++) {
                book.due("cell " + i + " of " + size, x.cell(2, i), i < size ? i : 255);
            }
        }
    }

    private void burnOfAll() {
        book.says(28, "all else of THE DEVICE as at first: 0.");
        PlaceMender x = Sentences.made(PatchBoundaries::halfway);
        x.forget();
        book.due("burn() without power, a journal there, the step forgotten", x.burn(), 0);
        int[] want = {0, 0, 1, NONE};
        for (int i = 0; i < 4; i++) {
            book.due("count(" + (6 + i) + ")", x.count(6 + i), want[i]);
        }
        book.due("steps()", x.steps(), 0);
        book.same("stash", Calls.stash(x, 0, 20), "\377".repeat(20));
        book.due("start", x.due(0, 0), x.digest(0));
        book.due("fits(2)", x.fits(2), 1);
        book.due("go(1)", x.go(1), 0);
        book.due("boot()", x.boot(), -5);
    }

    private void take() {
        book.says(29, "THE PLAN's PATCH is taken (START is as it is now; STEP 0, known; JOURNAL empty): "
                + "how many STEPS.");
        PlaceMender x = new PlaceMender();
        book.due("of no cells", x.take(), 0);
        book.due("it can be undone", x.count(10), 1);
        x = Calls.with("abcdef", "abcdef");
        book.due("of stays alone", x.take(), 0);
        x = Calls.with(new int[0], Calls.distinct(40));
        book.due("of forty sent", x.take(), 10);
        x = Samples.fivePairsWithAdds();
        x.burn();
        book.due("of 25 acts", x.take(), 25);
        book.due("its acts", x.count(6), 25);
        x.go(24);
        book.due("taken again", x.take(), 25);
        book.due("STEP", x.count(7), 0);
        book.due("known", x.fits(0), 0);
        book.due("JOURNAL", x.count(9), NONE);
        book.due("START", x.due(0, 0), x.digest(0));
        x.go(400);
        book.due("behind all steps", x.due(25, 9), x.digest(9));
        x.take();
        book.due("taken behind all steps: left", x.go(400), 25);
    }

    private void takeRefused() {
        book.says(29, "-5: POWER is off.");
        for (int phase = 0; phase < 4; phase++) {
            int cut = phase;
            Sentences.Setup off = x -> {
                Calls.set(x, "abcdefgh", "efghabcd");
                x.burn();
                x.take();
                x.go(1);
                x.cut(cut, 1);
            };
            book.refused(off, "take() behind a cut in " + phase, -5, PlaceMender::take);
            book.refused(x -> {
                off.on(x);
                x.forget();
            }, "take(), forgotten too", -5, PlaceMender::take);
        }
        PlaceMender x = Sentences.made(PatchBoundaries::halfway);
        x.boot();
        book.due("take() with power again", x.take(), 3);
    }

    // ---- 30

    private void load() {
        book.says(30, "The first n bytes of THE TAPE (which is empty then) are the PATCH, taken so: how many STEPS.");
        PlaceMender x = Calls.burnt("abcdefgh");
        Calls.feed(x, 8, 4, 0, 1, 'X', 4, 4, 1, 'Y');
        book.due("load(5) of 20", x.load(5), 1);
        book.due("acts", x.count(6), 1);
        book.due("the tape", x.count(11), 0);
        book.due("nothing is left on it", x.load(1), -3);
        x.go(400);
        book.same("flash", Calls.flash(x, 0, 8), "Xbcdefgh");
        book.due("no acts", Calls.load(x, 0), 0);
        book.due("STEP", x.count(7), 0);
        book.due("no acts, the most cells", Calls.load(x, 40), 0);
        book.due("START", x.due(0, 0), x.digest(0));
        book.due("the most acts, the most steps", Calls.load(x, Calls.patchOf(36, 2, 0, 0, 40)), 360);
        book.due("acts", x.count(6), 36);
        x.go(360);
        book.due("taken again: STEP", Calls.load(x, Calls.patchOf(36, 1, 0, 20, 0)) + x.count(7), 36);
    }

    private void loadRefused() {
        book.says(30, "-3: n is below 0, above what there is (THE TAPE stays); -5: POWER is off (so);");
        int[][] wrong = {{-1, 0}, {1, 0}, {-1, 20}, {21, 20}, {LEAST_INT, 20}, {MOST_INT, 20}, {161, 160}, {160, 140}};
        for (int[] w : wrong) {
            book.refused(x -> {
                Calls.burn(x, "abcdefgh");
                Calls.feed(x, Calls.filled(w[1], 40));
            }, "load(" + w[0] + ") of " + w[1], -3, x -> x.load(w[0]));
            book.refused(x -> {
                halfway(x);
                Calls.feed(x, Calls.filled(w[1], 40));
            }, "told first, without power: load(" + w[0] + ") of " + w[1], -3, x -> x.load(w[0]));
        }
        for (int n : new int[] {0, 1, 2, 20}) {
            book.refused(x -> {
                halfway(x);
                Calls.feed(x, 40, 9);
            }, "without power: load(" + n + ")", -5, x -> x.load(n));
        }
        PlaceMender x = Calls.burnt("abcdefgh");
        Calls.feed(x, 8, 4, 0, 1, 'X');
        x.load(21);
        book.due("the tape stays as it was", x.load(5), 1);
        x.cut(0, 0);
        Calls.feed(x, 8, 4, 0, 1, 'Y');
        x.load(5);
        x.boot();
        book.due("the tape stays as it was", x.load(5), 1);
    }

    /** A patch that is refused for a fault. */
    private void faulty(int fault, int place, int... bytes) {
        PlaceMender x = new PlaceMender();
        String told = Arrays.toString(bytes);
        book.due("load of " + told, Calls.load(x, bytes), -30 - fault);
        book.due("fault(0) of " + told, x.fault(0), fault);
        book.due("fault(1) of " + told, x.fault(1), place);
    }

    private void right(int steps, int... bytes) {
        PlaceMender x = new PlaceMender();
        String told = Arrays.toString(bytes);
        book.due("load of " + told, Calls.load(x, bytes), steps);
        book.due("fault(0) of " + told, x.fault(0), 0);
        book.due("fault(1) of " + told, x.fault(1), NONE);
        book.due("go(400) of " + told, x.go(400), steps);
    }

    private void firstFault() {
        book.says(30, "-30 less the FAULT, the first along the bytes:");
        faulty(3, 0, 41, 0);
        faulty(1, 1, 40, 0, 40);
        faulty(3, 2, 40, 2, 40);
        faulty(3, 2, 40, 2, 40, 40, 0);
        faulty(3, 3, 40, 4, 0, 41);
        faulty(1, 5, 40, 2, 0, 1, 1, 5, 2, 40);
        // it is as if it hadn't been, but that the tape is empty and the fault is told
        int[] bytes = {40, 4, 0, 1, 9, 2, 40};
        book.alike("a faulty load leaves the device, and what can be undone", x -> {
            Calls.set(x, "abcdefgh", "efghabcd");
            x.burn();
            x.take();
            x.go(2);
            Calls.load(x, bytes);
        }, x -> {
            Calls.load(x, bytes);
            Calls.set(x, "abcdefgh", "efghabcd");
            x.burn();
            x.take();
            x.go(2);
        });
    }

    private void codes() {
        book.says(30, "1 no code of an ACT (1 to 4),");
        for (int code : new int[] {0, 5, 6, 128, 255}) {
            faulty(1, 1, 40, code);
            faulty(1, 1, 40, code, 0, 0, 1);
            faulty(1, 5, 40, 1, 0, 1, 0, code);
        }
        right(1, 40, 1, 0, 1, 0);
        right(1, 40, 2, 0, 0, 1);
        right(1, 40, 3, 0, 0, 1);
        right(1, 40, 4, 0, 1, 0);
    }

    private void earlyEnds() {
        book.says(30, "2 the bytes end too early (its place: n),");
        faulty(2, 0);
        for (int n = 1; n <= EACH_KIND.length; n++) {
            int[] bytes = Arrays.copyOf(EACH_KIND, n);
            int acts = Arrays.binarySearch(ENDS, n);
            if (acts >= 0) {
                right(acts, bytes);
            } else {
                faulty(2, n, bytes);
            }
        }
        // what is on the tape behind n is not of the patch
        PlaceMender x = new PlaceMender();
        Calls.feed(x, EACH_KIND);
        book.due("load(17)", x.load(17), -32);
        book.due("its place", x.fault(1), 17);
        int[] forty = Calls.joined(new int[] {40, 4, 0, 40}, Calls.filled(39, 9));
        faulty(2, 43, forty);
        right(10, Calls.joined(forty, 9));
    }

    private void numbersOfSaves() {
        book.says(30, "3 a number that can't be (NEW's CELLS above 40;");
        right(0, 0);
        right(0, 40);
        faulty(3, 0, 41);
        faulty(3, 0, 255);
        book.says(30, "place above 19; a length of 0, above 20 of a 1, or with which it goes beyond FLASH, "
                + "the STASH; place of a 1 likewise),");
        right(1, 40, 1, 39, 1, 19);
        faulty(3, 2, 40, 1, 40, 1, 0);
        faulty(3, 2, 40, 1, 255, 1, 0);
        faulty(3, 3, 40, 1, 0, 0, 0);
        faulty(3, 3, 40, 1, 39, 0, 0);
        right(1, 40, 1, 0, 20, 0);
        faulty(3, 3, 40, 1, 0, 21, 0);
        faulty(3, 3, 40, 1, 0, 255, 0);
        right(1, 40, 1, 20, 20, 0);
        faulty(3, 3, 40, 1, 21, 20, 0);
        right(1, 40, 1, 21, 19, 0);
        faulty(3, 3, 40, 1, 39, 2, 0);
        faulty(3, 4, 40, 1, 0, 1, 20);
        faulty(3, 4, 40, 1, 0, 1, 255);
        faulty(3, 4, 40, 1, 0, 20, 1);
        right(1, 40, 1, 0, 2, 18);
        faulty(3, 4, 40, 1, 0, 2, 19);
    }

    private void numbersOfMoves() {
        book.says(30, "to, from above 39;");
        right(1, 40, 2, 39, 39, 1);
        faulty(3, 2, 40, 2, 40, 0, 1);
        faulty(3, 2, 40, 2, 255, 0, 1);
        faulty(3, 3, 40, 2, 0, 40, 1);
        faulty(3, 3, 40, 2, 0, 255, 1);
        book.says(30, "a length of 0, above 20 of a 1, or with which it goes beyond FLASH, the STASH;");
        faulty(3, 4, 40, 2, 0, 0, 0);
        right(10, 40, 2, 0, 0, 40);
        faulty(3, 4, 40, 2, 0, 0, 41);
        faulty(3, 4, 40, 2, 0, 0, 255);
        right(10, 40, 2, 1, 0, 39);
        faulty(3, 4, 40, 2, 1, 0, 40);
        right(10, 40, 2, 0, 1, 39);
        faulty(3, 4, 40, 2, 0, 1, 40);
        right(1, 40, 2, 39, 0, 1);
        faulty(3, 4, 40, 2, 39, 0, 2);
        right(1, 40, 2, 0, 39, 1);
        faulty(3, 4, 40, 2, 0, 39, 2);
        faulty(3, 8, 40, 2, 0, 39, 1, 2, 1, 39, 2, 9, 9);
    }

    private void numbersOfUnsaves() {
        book.says(30, "place above 19; a length of 0,");
        right(1, 40, 3, 39, 19, 1);
        faulty(3, 2, 40, 3, 40, 0, 1);
        faulty(3, 3, 40, 3, 0, 20, 1);
        faulty(3, 3, 40, 3, 0, 255, 1);
        faulty(3, 4, 40, 3, 0, 0, 0);
        right(5, 40, 3, 0, 0, 20);
        faulty(3, 4, 40, 3, 0, 0, 21);
        right(5, 40, 3, 20, 0, 20);
        faulty(3, 4, 40, 3, 21, 0, 20);
        right(5, 40, 3, 21, 0, 19);
        right(5, 40, 3, 0, 1, 19);
        faulty(3, 4, 40, 3, 0, 1, 20);
        faulty(3, 4, 40, 3, 0, 19, 2);
        faulty(3, 4, 40, 3, 39, 0, 2);
    }

    private void numbersOfSends() {
        book.says(30, "or with which it goes beyond FLASH, the STASH;");
        right(1, 40, 4, 39, 1, 255);
        faulty(3, 2, 40, 4, 40, 1, 9);
        faulty(3, 3, 40, 4, 0, 0, 9);
        right(10, Calls.joined(new int[] {40, 4, 0, 40}, Calls.distinct(40)));
        faulty(3, 3, Calls.joined(new int[] {40, 4, 0, 41}, Calls.distinct(41)));
        right(10, Calls.joined(new int[] {40, 4, 1, 39}, Calls.distinct(39)));
        faulty(3, 3, Calls.joined(new int[] {40, 4, 1, 40}, Calls.distinct(40)));
        faulty(3, 3, 40, 4, 39, 2, 9, 9);
    }

    private void thirtySevenActs() {
        book.says(30, "4 the code of a 37th ACT (that is one).");
        int[] most = Calls.patchOf(36, 2, 39, 0, 1);
        right(36, most);
        right(35, Calls.patchOf(35, 2, 39, 0, 1));
        for (int code = 1; code <= 4; code++) {
            faulty(4, 145, Calls.joined(most, code));
            faulty(4, 145, Calls.joined(most, code, 0, 1, 0));
        }
        faulty(1, 145, Calls.joined(most, 0));
        faulty(1, 145, Calls.joined(most, 5));
        faulty(3, 144, Calls.joined(Arrays.copyOf(most, 144), 0, 1));
    }

    // ---- 31

    private void fault() {
        book.says(31, "Of the latest load() that read bytes, what 0: its FAULT (0), 1: its place (NONE).");
        PlaceMender x = Calls.burnt("abcdefgh");
        faultIs("ahead of any load()", x, 0, NONE);
        book.due("load(1) of none", x.load(1), -3);
        faultIs("behind one that was refused", x, 0, NONE);
        book.due("load(0)", x.load(0), -32);
        faultIs("behind load(0)", x, 2, 0);
        Calls.load(x, 40, 4, 0, 41);
        faultIs("behind another fault", x, 3, 3);
        x.load(-1);
        x.load(1);
        faultIs("behind two that were refused", x, 3, 3);
        x.take();
        x.burn();
        x.undo(1);
        faultIs("behind take(), burn(), undo()", x, 3, 3);
        x.image(0);
        Calls.load(x, 8, 4, 0, 1, 'X');
        faultIs("behind one without a fault", x, 0, NONE);
        x.cut(0, 0);
        Calls.feed(x, 9, 9);
        x.load(2);
        faultIs("behind one without power", x, 0, NONE);
        book.says(31, "NONE for others.");
        for (int what : new int[] {-1, 2, LEAST_INT, MOST_INT}) {
            book.due("fault(" + what + ")", x.fault(what), NONE);
            book.due("at first, fault(" + what + ")", new PlaceMender().fault(what), NONE);
        }
    }

    private void faultIs(String when, PlaceMender x, int fault, int place) {
        book.due(when + ", fault(0)", x.fault(0), fault);
        book.due(when + ", fault(1)", x.fault(1), place);
    }

    // ---- 32, 33

    private void steps() {
        book.says(32, "How many STEPS.");
        PlaceMender x = Calls.burnt("abcdefgh");
        book.due("at first", new PlaceMender().steps(), 0);
        book.due("behind burn()", x.steps(), 0);
        Calls.load(x, 40, 4, 39, 1, 9);
        book.due("the least act", x.steps(), 1);
        x.go(1);
        book.due("those that are done too", x.steps(), 1);
        Calls.load(x, Calls.patchOf(36, 2, 0, 0, 40));
        book.due("the most", x.steps(), 360);
        x.burn();
        book.due("behind burn() again", x.steps(), 0);
    }

    private void step() {
        book.says(33, "Of a STEP, what 0: its ACT (in the PATCH that was taken), 1: the BLOCK (NONE: of a 1),");
        PlaceMender x = Calls.burnt("abcdefgh");
        Calls.load(x, Calls.patchOf(36, 2, 1, 0, 39));
        int[][] want = {{0, 0, 9}, {9, 0, 0}, {10, 1, 9}, {349, 34, 0}, {350, 35, 9}, {359, 35, 0}};
        for (int[] w : want) {
            book.due("step(" + w[0] + ", 0)", x.step(w[0], 0), w[1]);
            book.due("step(" + w[0] + ", 1)", x.step(w[0], 1), w[2]);
        }
        Calls.set(x, "xyz", "q");
        book.due("other images, the same patch", x.step(359, 0), 35);
        PlaceMender save = Calls.burnt("abcdefgh");
        Calls.load(save, 40, 1, 0, 20, 0);
        book.due("of a 1, its act", save.step(0, 0), 0);
        book.due("of a 1, its block", save.step(0, 1), NONE);
        book.says(33, "-2.");
        for (int s : new int[] {-1, 360, 361, LEAST_INT, MOST_INT}) {
            book.due("step(" + s + ", 0)", x.step(s, 0), -2);
        }
        for (int what : new int[] {-1, 3, LEAST_INT, MOST_INT}) {
            book.due("step(0, " + what + ")", x.step(0, what), -2);
            book.due("ahead of NONE: step(0, " + what + ")", save.step(0, what), -2);
        }
        book.due("without steps", new PlaceMender().step(0, 0), -2);
    }

    private void otherCells() {
        book.says(33, "2: 1 if the BLOCK is other CELLS behind it than DUE ahead of it, else 0 (NONE: of a 1).");
        PlaceMender x = Calls.burnt("abcdabcd");
        // into its own place; from a like block; one other cell; the last cell alone; one that is what it was; a save
        Calls.load(x, 40, 2, 0, 0, 4, 2, 0, 4, 4, 4, 4, 1, 'X', 4, 39, 1, 0, 4, 38, 1, 255, 1, 0, 4, 0);
        int[] want = {0, 0, 1, 1, 0, NONE};
        for (int s = 0; s < want.length; s++) {
            book.due("step(" + s + ", 2)", x.step(s, 2), want[s]);
        }
        x.go(400);
        book.due("from START on, wherever it is", x.step(2, 2), 1);
        x.spoil(39, 7);
        book.due("as DUE, not as it is", x.step(3, 2), 1);
        x = Calls.burnt("abcd");
        Calls.load(x, 40, 4, 0, 1, 'X', 4, 0, 1, 'a');
        book.due("it is other cells, and then the first ones again", x.step(0, 2) + x.step(1, 2), 2);
    }
}
