/** The boundaries that the terms of all calls name (the end of part 3 of "Terms"): undoing, images, refused calls. */
final class CallTermsBoundaries {
    private static final int NONE = PlaceMender.NONE;
    private static final int TERMS = Sentences.TERMS;

    private final Sentences book;

    CallTermsBoundaries(Sentences book) {
        this.book = book;
    }

    void all() {
        undone();
        notUndone();
        undoneStash();
        undoneJournal();
        askedBehind();
        mostUndone();
        images();
        codes();
        toldFirst();
        manyCalls();
    }

    // ---- undoing, images

    private static void working(PlaceMender x) {
        Calls.set(x, "abcdefgh", "efghabcd");
        x.burn();
        x.take();
        x.go(1);
    }

    private void undoneIs(String call, Sentences.Setup ahead, Sentences.Call done) {
        book.alike(call + " is undone", x -> {
            ahead.on(x);
            int could = x.count(10);
            done.on(x);
            book.due("it can be, " + call, x.count(10), could + 1);
            book.due("undo(1) of " + call, x.undo(1), could);
        }, ahead);
    }

    private void undone() {
        book.says(TERMS, "Calls that did some to THE DEVICE (burn(), take(), load(), cut(), forget(), boot(), spoil() that "
                + "aren't refused; go() of one STEP at least) can be UNDONE each as a whole,");
        Sentences.Setup torn = x -> {
            working(x);
            x.cut(2, 1);
        };
        Sentences.Setup forgotten = x -> {
            torn.on(x);
            x.forget();
        };
        undoneIs("burn()", CallTermsBoundaries::working, PlaceMender::burn);
        undoneIs("burn() without power", forgotten, PlaceMender::burn);
        undoneIs("take()", CallTermsBoundaries::working, PlaceMender::take);
        undoneIs("load()", CallTermsBoundaries::working, x -> Calls.load(x, 40, 4, 0, 1, 9));
        undoneIs("load() of no acts", CallTermsBoundaries::working, x -> Calls.load(x, 0));
        undoneIs("forget()", torn, PlaceMender::forget);
        undoneIs("boot()", torn, PlaceMender::boot);
        undoneIs("boot(), forgotten", forgotten, PlaceMender::boot);
        undoneIs("spoil()", torn, x -> x.spoil(39, 0));
        undoneIs("spoil() of what it was", torn, x -> x.spoil(39, 255));
        undoneIs("go() of one step", CallTermsBoundaries::working, x -> x.go(1));
        undoneIs("go() of all steps", CallTermsBoundaries::working, x -> x.go(400));
        for (int phase = 0; phase < 4; phase++) {
            int in = phase;
            undoneIs("cut(" + phase + ", 3)", CallTermsBoundaries::working, x -> x.cut(in, 3));
        }
    }

    private void notUndone() {
        book.says(TERMS, "that aren't refused; go() of one STEP at least)");
        Sentences.Setup all = x -> {
            working(x);
            x.go(400);
        };
        book.refused(all, "go() of no step", 0, x -> x.go(1));
        Sentences.Call[] calls = {PlaceMender::forget, PlaceMender::boot, x -> x.cut(0, 0), x -> x.spoil(40, 0),
            x -> x.go(0), x -> x.load(1), x -> x.load(0), x -> x.terms(3, 9), x -> x.image(0), x -> x.feed(1, 2, 3, 4, 5),
            x -> x.fresh(0), x -> x.old(0), x -> x.cuts(3), x -> x.twice(2, 2)};
        for (int i = 0; i < calls.length; i++) {
            PlaceMender x = Sentences.made(all);
            calls[i].on(x);
            book.due("call " + i + " can't be undone", x.count(10), 4);
        }
        PlaceMender x = Sentences.made(CallTermsBoundaries::working);
        x.terms(3, 9);
        Calls.feed(x, 1, 2, 3);
        x.old(3);
        x.spoil(0, 0);
        x.undo(1);
        book.due("OLD stays", x.count(0), 3);
        book.due("TERMS stay", x.count(5), 9);
    }

    private void undoneStash() {
        book.says(TERMS, "all of THE DEVICE.");
        PlaceMender x = Calls.burnt("abcdefgh");
        Calls.load(x, 8, 1, 0, 4, 0);
        x.go(1);
        Calls.load(x, 8, 3, 8, 0, 4);
        long want = x.digest(0);
        book.due("START's stash", x.due(1, 2), want);
        Calls.load(x, 8, 1, 4, 4, 0);
        x.go(1);
        Calls.load(x, 8, 3, 8, 0, 4);
        book.due("another START's stash", x.due(1, 2), x.digest(1));
        x.undo(3);
        book.due("START's stash, undone", x.due(1, 2), want);
        book.due("the stash, undone", x.cell(3, 0), 'a');
    }

    private void undoneJournal() {
        book.says(TERMS, "all of THE DEVICE.");
        PlaceMender x = Calls.burnt("abcdefgh");
        Calls.load(x, 8, 4, 0, 4, 'W', 'X', 'Y', 'Z', 4, 4, 4, 'w', 'x', 'y', 'z');
        x.cut(2, 0);
        x.boot();
        x.cut(2, 0);
        book.due("the second block in JOURNAL", x.count(9), 1);
        x.undo(2);
        book.due("the first block in JOURNAL, undone", x.count(9), 0);
        x.boot();
        book.same("its cells", Calls.flash(x, 0, 8), "WXYZefgh");
    }

    /** Whatever is asked first behind undo(), burn() or restore() is told of what is there then. */
    private void askedBehind() {
        book.says(TERMS, "all of THE DEVICE.");
        Sentences.Call[] calls = {PlaceMender::steps, x -> x.step(1, 1), x -> x.go(400), x -> x.cut(2, 3),
            x -> x.hazard(0), x -> x.wear(1), x -> x.cuts(0), x -> x.cuts(3), x -> x.twice(1, 2), x -> x.odds(3, 0),
            x -> x.count(6), x -> x.due(1, 0), x -> x.fits(1), PlaceMender::boot};
        Sentences.Setup one = x -> {
            Calls.burn(x, "abcdefgh");
            Calls.load(x, 8, 2, 0, 2, 6, 2, 8, 0, 1);
        };
        Sentences.Setup other = x -> Calls.load(x, 8, 4, 0, 1, 9);
        for (int i = 0; i < calls.length; i++) {
            long want = calls[i].on(Sentences.made(one));
            PlaceMender undone = Sentences.made(one);
            other.on(undone);
            undone.undo(1);
            book.due("call " + i + " behind undo()", calls[i].on(undone), want);
            PlaceMender restored = Sentences.made(one);
            restored.image(0);
            other.on(restored);
            restored.restore(0);
            book.due("call " + i + " behind restore()", calls[i].on(restored), want);
            PlaceMender burnt = Sentences.made(one);
            burnt.burn();
            book.due("call " + i + " behind burn()", calls[i].on(burnt), calls[i].on(Calls.burnt("abcdefgh")));
        }
    }

    private void mostUndone() {
        book.says(TERMS, "the latest first, 10 at most (eldest are forgotten): all of THE DEVICE.");
        for (int calls : new int[] {0, 1, 9, 10, 11, 20, 21, 30}) {
            PlaceMender x = new PlaceMender();
            for (int i = 0; i < calls; i++) {
                x.spoil(0, 100 + i);
            }
            int can = Math.min(calls, 10);
            book.due("behind " + calls + " calls", x.count(10), can);
            book.due("one more", x.undo(can + 1), -3);
            for (int n = 1; n <= can; n++) {
                book.due("undo(1)", x.undo(1), can - n);
                book.due("the latest first", x.cell(2, 0), n == calls ? 255 : 100 + calls - n - 1);
            }
            book.due("none is left", x.undo(1), -3);
            x.spoil(0, 1);
            book.due("another one", x.count(10), 1);
        }
    }

    private void images() {
        book.says(TERMS, "IMAGES 0 to 1: OLD, NEW, TERMS, THE DEVICE (none at first); nothing can be UNDONE behind.");
        PlaceMender x = new PlaceMender();
        book.due("image 0 at first", x.restore(0), -5);
        book.due("image 1 at first", x.restore(1), -5);
        book.due("image(-1)", x.image(-1), -2);
        book.due("image(2)", x.image(2), -2);
        working(x);
        x.terms(3, 20);
        x.image(1);
        Calls.set(x, "xyz", "x");
        x.terms(3, 0);
        x.burn();
        Calls.feed(x, 1);
        book.due("restore(1)", x.restore(1), 0);
        int[] want = {8, 8, 3, 0, 0, 20, 3, 1, 1, NONE, 0, 20};
        for (int what = 0; what < want.length; what++) {
            book.due("count(" + what + ")", x.count(what), want[what]);
        }
        book.due("nothing can be undone", x.undo(1), -3);
        x.go(1);
        book.due("but what comes then", x.undo(1), 0);
        book.due("to where the image was", x.count(7), 1);
    }

    // ---- of all calls

    private void codes() {
        book.says(TERMS, "Refused calls answer by a code and change nothing: -2 there is none such; -3 a number can't be; "
                + "-5 it can't be now; -30 less the FAULT: a PATCH.");
        Sentences.Setup full = x -> {
            working(x);
            x.image(0);
            x.cut(2, 2);
            Calls.feed(x, Calls.filled(160, 7));
        };
        book.refused(full, "feed", -5, x -> x.feed(0, 0, 0, 0, 0));
        book.refused(full, "old", -3, x -> x.old(41));
        book.refused(full, "fresh", -3, x -> x.fresh(-1));
        book.refused(full, "terms, what", -2, x -> x.terms(4, 0));
        book.refused(full, "terms, v", -3, x -> x.terms(0, 9));
        book.refused(full, "take", -5, PlaceMender::take);
        book.refused(full, "load", -5, x -> x.load(160));
        book.refused(full, "load, n", -3, x -> x.load(161));
        book.refused(full, "go", -5, x -> x.go(1));
        book.refused(full, "cut", -5, x -> x.cut(0, 0));
        book.refused(full, "spoil, the cell", -2, x -> x.spoil(40, 0));
        book.refused(full, "spoil, v", -3, x -> x.spoil(0, 256));
        book.refused(full, "undo", -3, x -> x.undo(5));
        book.refused(full, "image", -2, x -> x.image(2));
        book.refused(full, "restore", -2, x -> x.restore(2));
        book.refused(full, "restore of none", -5, x -> x.restore(1));
        int[][] patches = {{40, 9}, {40, 1}, {41}, Calls.joined(Calls.patchOf(36, 1, 0, 1, 0), 1)};
        for (int fault = 1; fault <= 4; fault++) {
            PlaceMender x = new PlaceMender();
            book.due("fault " + fault, Calls.load(x, patches[fault - 1]), -30 - fault);
            book.due("nothing is taken", x.count(6) + x.count(10) + x.steps(), 0);
        }
    }

    private void toldFirst() {
        book.says(TERMS, "(Of several that which the call tells first; all these ahead of NONE.)");
        PlaceMender x = Sentences.made(CallTermsBoundaries::working);
        x.cut(2, 2);
        book.due("terms(4, 99): what", x.terms(4, 99), -2);
        book.due("ring(9, -2): the command", x.ring(9, -2), -2);
        book.due("load(1) of none without power: n", x.load(1), -3);
        book.due("go(0) without power: n", x.go(0), -3);
        book.due("cut(4, 0) without power: phase", x.cut(4, 0), -3);
        book.due("spoil(40, 256): the cell", x.spoil(40, 256), -2);
        book.due("restore(2), none was made: i", x.restore(2), -2);
        PlaceMender none = new PlaceMender();
        book.due("cell(4, -1)", none.cell(4, -1), -2);
        book.due("widest(3)", none.widest(3), -2);
        book.due("hazard(2)", none.hazard(2), -2);
        book.due("odds(0, 0)", none.odds(0, 0), -2);
        none.spoil(0, 0);
        book.due("fits(3)", none.fits(3), -2);
        PlaceMender add = Calls.with("", "abc");
        book.due("run(0, 3)", add.run(0, 3), -2);
        book.due("command(0, 5)", add.command(0, 5), -2);
        book.due("ring(0, -2) of one in no ring", add.ring(0, -2), -3);
        book.due("act(0, 3)", add.act(0, 3), -2);
        PlaceMender save = new PlaceMender();
        Calls.load(save, 40, 1, 0, 1, 0);
        book.due("step(0, 3)", save.step(0, 3), -2);
    }

    private void manyCalls() {
        book.says(TERMS, "An object is used for at most 512 calls after it has been made; what later calls answer is free.");
        PlaceMender x = new PlaceMender();
        for (int i = 1; i <= 511; i++) {
            book.due("call " + i, x.spoil(39, i % 256), i == 1 ? 255 : (i - 1) % 256);
        }
        book.due("call 512", x.cell(2, 39), 511 % 256);
        PlaceMender y = Samples.twenty();
        for (int i = 7; i < 512; i++) {
            y.terms(3, i % 21);
        }
        // six calls made it; by a budget of 7 one of its copies is saved
        book.due("call 512 of another one", y.plan(3), 1 + 13 * 4);
    }
}
