/** The boundaries that the terms of images, commands and the plan name (parts 1 and 2 of "Terms"). */
final class TermsBoundaries {
    private static final int NONE = PlaceMender.NONE;
    private static final int TERMS = Sentences.TERMS;

    private final Sentences book;

    TermsBoundaries(Sentences book) {
        this.book = book;
    }

    void all() {
        constants();
        cells();
        suffixes();
        runs();
        terms();
        choices();
        commands();
        adds();
        mustBeAhead();
        rings();
        planOrder();
        places();
        rules();
        sent();
        patchBytes();
    }

    // ---- 1

    private void constants() {
        book.says(TERMS, "The constants: `NONE = -1`: There is none.");
        book.due("NONE", PlaceMender.NONE, -1);
    }

    private void cells() {
        book.says(TERMS, "CELLS are bytes, 0 to 255.");
        PlaceMender x = Calls.with(new int[] {0, 1, 127, 128, 254, 255}, new int[] {255, 0});
        int[] want = {0, 1, 127, 128, 254, 255};
        for (int i = 0; i < want.length; i++) {
            book.due("cell(0, " + i + ")", x.cell(0, i), want[i]);
        }
        book.due("cell(1, 0)", x.cell(1, 0), 255);
        book.due("255 is found", x.run(0, 1), 5);
        book.due("0 is found", x.run(1, 1), 0);
        x.burn();
        book.due("cell(2, 5)", x.cell(2, 5), 255);
        book.due("spoil(5, 256)", x.spoil(5, 256), -3);
        book.due("spoil(5, -1)", x.spoil(5, -1), -3);
        book.says(TERMS, "OLD, NEW: 0 to 40 CELLS each (none at first).");
        PlaceMender y = new PlaceMender();
        book.due("OLD at first", y.count(0), 0);
        book.due("NEW at first", y.count(1), 0);
        Calls.feed(y, Calls.distinct(60));
        book.due("old(41)", y.old(41), -3);
        book.due("fresh(41)", y.fresh(41), -3);
        book.due("old(40)", y.old(40), 40);
        Calls.feed(y, Calls.distinct(60));
        book.due("fresh(40)", y.fresh(40), 40);
        book.due("old(0)", y.old(0), 0);
        book.due("fresh(0)", y.fresh(0), 0);
    }

    private void suffixes() {
        book.says(TERMS, "SUFFIXES of OLD: from each CELL to the end; their order: the first CELL in which they differ, "
                + "the lesser first; one that is the beginning of another ahead of it.");
        suffixesAre(new int[] {7, 7, 7}, 2, 1, 0);
        suffixesAre(new int[] {0, 255}, 0, 1);
        suffixesAre(new int[] {255, 0}, 1, 0);
        suffixesAre(new int[] {128, 127}, 1, 0);
        suffixesAre(new int[] {1, 2, 1, 1, 2, 0}, 5, 2, 3, 0, 4, 1);
        suffixesAre(new int[] {1, 2, 9, 1, 2}, 3, 0, 4, 1, 2);
        suffixesAre(new int[] {});
    }

    private void suffixesAre(int[] old, int... order) {
        PlaceMender x = Calls.with(old, new int[0]);
        for (int i = 0; i < order.length; i++) {
            book.due("suffix(" + i + ") of " + old.length, x.suffix(i), order[i]);
        }
        book.due("as many as cells", x.suffix(old.length), NONE);
    }

    private void runs() {
        book.says(TERMS, "A RUN at a CELL j of NEW: f in OLD, as many CELLS from f on as are the same as those from j "
                + "on; LONGEST: the most (0, too).");
        book.due("0", Calls.with("abc", "xyz").run(2, 0), 0);
        book.due("0 of no cells of OLD", Calls.with("", "xyz").run(0, 0), 0);
        book.due("1, the last of OLD", Calls.with("abc", "c").run(0, 0), 1);
        book.due("to the end of OLD", Calls.with("abc", "bcabc").run(0, 0), 2);
        book.due("to the end of NEW", Calls.with("abcde", "xbc").run(1, 0), 2);
        book.due("up to the first other cell", Calls.with("abcde", "abXde").run(0, 0), 2);
        book.due("the most there are", Calls.with(Calls.filled(40, 0), Calls.filled(40, 0)).run(0, 0), 40);
    }

    private void terms() {
        book.says(TERMS, "TERMS: 0 LEAST 3 to 8 (3 at first),");
        termIs(0, 3, 8, 3);
        book.says(TERMS, "1 CHOICE 0 to 2 (0):");
        termIs(1, 0, 2, 0);
        book.says(TERMS, "2 RULE 0 to 2 (0);");
        termIs(2, 0, 2, 0);
        book.says(TERMS, "3 BUDGET 0 to 20 (8).");
        termIs(3, 0, 20, 8);
    }

    private void termIs(int what, int lowest, int highest, int first) {
        PlaceMender x = new PlaceMender();
        book.due("at first", x.count(2 + what), first);
        book.due("the highest", x.terms(what, highest), first);
        book.due("above it", x.terms(what, highest + 1), -3);
        book.due("the lowest", x.terms(what, lowest), highest);
        book.due("below it", x.terms(what, lowest - 1), -3);
        book.due("then", x.count(2 + what), lowest);
    }

    private void choices() {
        book.says(TERMS, "of LONGEST RUNS (of 1 CELL at least) that of the lowest f (0), the highest (1), the nearest "
                + "to j (2; of two the lower one);");
        // abc at 0, 4 and 12; at NEW's 8 the first is 8 away, the others 4 each
        PlaceMender x = Calls.with("abcXabcXXXXXabc", "????????abc???");
        int[] want = {0, 12, 4};
        for (int choice = 0; choice < 3; choice++) {
            x.terms(1, choice);
            book.due("by " + choice, x.run(8, 1), want[choice]);
            book.due("none at 0, by " + choice, x.run(0, 1), NONE);
        }
        Calls.setNew(x, Calls.cells("?????????abc"));
        book.due("one nearer above", x.run(9, 1), 12);
        Calls.setNew(x, Calls.cells("???????abc"));
        book.due("one nearer below", x.run(7, 1), 4);
        Calls.setNew(x, Calls.cells("????abc"));
        book.due("at its own place", x.run(4, 1), 4);
        x = Calls.with("b", "??b");
        for (int choice = 0; choice < 3; choice++) {
            x.terms(1, choice);
            book.due("of 1 cell, by " + choice, x.run(2, 1), 0);
        }
    }

    private void commands() {
        book.says(TERMS, "COMMANDS, from the first CELL of NEW on: if LONGEST is LEAST or more: a COPY of so many CELLS "
                + "from f by CHOICE (a STAY, if f is j);");
        String text = "abcdefgh";
        for (int cells = 2; cells <= 8; cells++) {
            for (int least = 3; least <= 8; least++) {
                PlaceMender x = Calls.with("x" + text.substring(0, cells), text.substring(0, cells));
                x.terms(0, least);
                book.due(cells + " cells, LEAST " + least, x.command(0, 0), cells >= least ? 1 : 0);
                x = Calls.with(text.substring(0, cells), text.substring(0, cells));
                x.terms(0, least);
                book.due(cells + " cells at their place, LEAST " + least, x.command(0, 0), cells >= least ? 2 : 0);
            }
        }
        PlaceMender x = Calls.with("abcabc", "???abc");
        book.due("the lowest f is a copy", x.command(1, 0), 1);
        x.terms(1, 1);
        book.due("the highest is a stay", x.command(1, 0), 2);
    }

    private void adds() {
        book.says(TERMS, "else the CELL is of an ADD (all such ones behind one another are one ADD); then behind it. "
                + "Numbered from 0 on, as they come.");
        PlaceMender x = Calls.with("abcdef", "ab??ef");
        book.due("runs of two, and none", x.commands(), 1);
        book.due("all six", x.command(0, 3), 6);
        x = Calls.with("abcdef", "?abc??def?");
        int[][] want = {{0, 0, 1}, {1, 1, 3}, {0, 4, 2}, {1, 6, 3}, {0, 9, 1}};
        book.due("commands", x.commands(), 5);
        for (int k = 0; k < 5; k++) {
            book.due("kind of " + k, x.command(k, 0), want[k][0]);
            book.due("place of " + k, x.command(k, 1), want[k][1]);
            book.due("cells of " + k, x.command(k, 3), want[k][2]);
        }
        x = Calls.with(new int[0], Calls.distinct(40));
        book.due("the most cells of one", x.command(0, 3), 40);
        book.due("none of none", new PlaceMender().commands(), 0);
    }

    private void mustBeAhead() {
        book.says(TERMS, "One COMMAND MUST be AHEAD of another one, if it is a COPY (no STAY), the other one is no STAY, "
                + "and that writes a CELL (of its place in NEW) that this one reads (of its place in OLD).");
        // 0 stays at 0 to 3, 1 is sent to 4 and 5, 2 stays at 6 to 8, 3 is a copy to 9 to 11
        String[] copies = {"bcd", "cde", "def", "efg", "fgh", "ghi"};
        int[] want = {0, 1, 1, 1, 1, 0};
        for (int i = 0; i < copies.length; i++) {
            PlaceMender x = Calls.with("abcdefghijkl", "abcdXYghi" + copies[i]);
            book.due("commands, " + copies[i], x.commands(), 4);
            book.due("a copy of an add, " + copies[i], x.ahead(3, 1), want[i]);
            book.due("an add of a copy, " + copies[i], x.ahead(1, 3), 0);
            book.due("a copy of a stay, " + copies[i], x.ahead(3, 0) + x.ahead(3, 2), 0);
            book.due("a stay of any, " + copies[i], x.ahead(0, 1) + x.ahead(0, 3) + x.ahead(2, 3), 0);
        }
        PlaceMender x = Samples.threeInTwoRings();
        book.due("a copy that reads the last cell of another one", x.ahead(0, 1), 1);
        book.due("that one reads none of it", x.ahead(1, 0), 0);
    }

    private void rings() {
        book.says(TERMS, "A RING: COPIES each of which must be AHEAD of the next, the last of the first.");
        PlaceMender x = Calls.with("abcdefgh", "Xabcdefg");
        book.due("a copy that reads what it writes itself is none", x.ringed(), 0);
        x = Calls.with("abcdef", "defabc");
        book.due("the least one, of two", x.ringed(), 3);
        book.due("how many", x.ring(0, NONE), 2);
        book.due("the greatest, of thirteen", Samples.thirteen().ring(12, NONE), 13);
        x = Calls.with("abcdefghi", "defXYZabc");
        book.due("a row that doesn't come back", x.ringed(), 0);
    }

    // ---- 2

    private void planOrder() {
        book.says(TERMS, "==== 2. THE PLAN: a row of ACTS. As long as a COMMAND (no STAY) isn't DONE: the lowest one of "
                + "which no other one MUST be AHEAD that is neither DONE nor SAVED nor SENT: it is DONE (an ACT; if it "
                + "was SAVED, its STASH is free then).");
        book.due("none", new PlaceMender().acts(), 0);
        book.due("stays alone", Calls.with("abcdef", "abcdef").acts(), 0);
        actsAre(Calls.with("abcdefgh", "Xabcdefg"), new int[][] {{2, 1, NONE}, {4, 0, NONE}});
        actsAre(Calls.with("abcdef", "?abc??def?"),
                new int[][] {{2, 3, NONE}, {2, 1, NONE}, {4, 0, NONE}, {4, 2, NONE}, {4, 4, NONE}});
        actsAre(Samples.gap(), new int[][] {{1, 1, 0}, {1, 3, 6}, {3, 1, 0}, {2, 0, NONE}, {4, 2, NONE}, {3, 3, 6}});
        PlaceMender x = Samples.sixPairs();
        x.terms(3, 3);
        book.due("the same three cells of the stash, six times", x.plan(0), 6);
        book.due("none is sent", x.plan(1), 0);
        for (int i = 0; i < 18; i++) {
            int[] kinds = {1, 2, 3};
            int[] commands = {0, 1, 0};
            int[] places = {0, NONE, 0};
            book.due("act(" + i + ", 0)", x.act(i, 0), kinds[i % 3]);
            book.due("act(" + i + ", 1)", x.act(i, 1), i / 3 * 2 + commands[i % 3]);
            book.due("act(" + i + ", 2)", x.act(i, 2), places[i % 3]);
        }
    }

    private void actsAre(PlaceMender x, int[][] want) {
        book.due("acts()", x.acts(), want.length);
        for (int i = 0; i < want.length; i++) {
            for (int what = 0; what < 3; what++) {
                book.due("act(" + i + ", " + what + ")", x.act(i, what), want[i][what]);
            }
        }
    }

    private void places() {
        book.says(TERMS, "If there is none: of COPIES that are neither DONE nor SAVED nor SENT and are in a RING of such "
                + "ones, and for which there is a place in the STASH (as many free CELLS behind one another of its first "
                + "BUDGET ones; the lowest place),");
        for (int cells = 3; cells <= 20; cells++) {
            PlaceMender x = Calls.with(Calls.distinct(2 * cells), swapped(cells));
            x.terms(3, cells);
            book.due("a budget of just " + cells, x.plan(0), 1);
            book.due("its place", x.act(0, 2), 0);
            book.due("cells taken", x.plan(2), cells);
            x.terms(3, cells - 1);
            book.due("a budget of one less than " + cells, x.plan(0), 0);
            book.due("so it is sent", x.plan(1), 1);
        }
        PlaceMender x = Samples.gap();
        book.due("ten free, eight of them not behind one another", x.command(2, 4), 2);
        x.terms(3, 13);
        book.due("just enough for both that are saved", x.plan(0), 2);
        book.due("cells taken", x.plan(2), 13);
        book.due("3 is saved", x.command(3, 4), 1);
        x.terms(3, 12);
        book.due("one less: 3 is sent", x.command(3, 4), 2);
        book.due("2 gets the place of 1 then", x.command(2, 4), 1);
        book.due("cells taken, never those of both at once", x.plan(2), 8);
        x = Samples.twoHalves();
        x.terms(3, 20);
        book.due("the place next to what is taken", x.act(1, 2), 10);
        x.terms(3, 0);
        book.due("no stash at all", x.plan(0) + x.plan(2), 0);
    }

    private static int[] swapped(int cells) {
        int[] fresh = new int[2 * cells];
        for (int i = 0; i < fresh.length; i++) {
            fresh[i] = (i + cells) % fresh.length;
        }
        return fresh;
    }

    private void rules() {
        book.says(TERMS, "the first by RULE: 0 of the fewest CELLS, 1 that MUST be AHEAD of the most that aren't DONE, "
                + "2 any; of like ones the lowest: it is SAVED (an ACT).");
        PlaceMender fewer = Calls.with("abcdefg", "defgabc");
        PlaceMender more = Samples.twoHalves();
        PlaceMender like = Samples.thirteen();
        // 0 and 2 must be ahead of two, 1 of one; 0 has no place
        PlaceMender later = Samples.threeInTwoRings();
        int[] saved = {1, 0, 0};
        int[] savedOfMore = {1, 0, 0};
        int[] savedOfLater = {1, 2, 1};
        more.terms(3, 20);
        later.terms(3, 13);
        for (int rule = 0; rule < 3; rule++) {
            fewer.terms(2, rule);
            more.terms(2, rule);
            like.terms(2, rule);
            later.terms(2, rule);
            book.due("three or four cells, by " + rule, fewer.act(0, 1), saved[rule]);
            book.due("ahead of two or one, by " + rule, more.act(0, 1), savedOfMore[rule]);
            book.due("like ones, by " + rule, like.act(0, 1), 0);
            book.due("the last ahead of two, by " + rule, later.act(0, 1), savedOfLater[rule]);
            book.due("it is saved, by " + rule, later.act(0, 0), 1);
        }
        more.terms(2, 1);
        more.terms(3, 19);
        book.due("if there is no place for the first, of like ones the lowest", more.act(0, 1), 1);
    }

    private void sent() {
        book.says(TERMS, "If there is no such one: of those in a RING that of the fewest CELLS, the lowest: it is SENT "
                + "(no ACT; it is as an ADD from now on).");
        for (int rule = 0; rule < 3; rule++) {
            PlaceMender x = Calls.with("abcdefg", "defgabc");
            x.terms(2, rule);
            x.terms(3, 2);
            actsAre(x, new int[][] {{2, 0, NONE}, {4, 1, NONE}});
            book.due("the fewest cells, by " + rule, x.command(1, 4), 2);
            x = Samples.sixPairs();
            x.terms(2, rule);
            x.terms(3, 2);
            for (int k = 0; k < 12; k++) {
                book.due("like ones, command " + k, x.command(k, 4), k % 2 == 0 ? 2 : 0);
            }
            book.due("no acts for it but its own", x.acts(), 12);
        }
        // 0 and 1 are a ring of 5 and 4 cells; 2, of 3 cells, waits for 0, but is in no ring
        PlaceMender x = Calls.with("abcdefghijklmno", "ghijkabcdmno");
        book.due("2 waits for 0", x.ahead(0, 2), 1);
        for (int budget = 0; budget < 4; budget++) {
            x.terms(3, budget);
            book.due("one in no ring isn't saved, " + budget, x.plan(0), 0);
            book.due("one in no ring isn't sent, " + budget, x.command(2, 4), 0);
            book.due("one in the ring is, " + budget, x.command(1, 4), 2);
        }
    }

    private void patchBytes() {
        book.says(TERMS, "A PATCH in bytes: how many CELLS NEW has; then of each ACT: 1, from, length, place: SAVED: "
                + "CELLS of FLASH come into the STASH; 2, to, from, length: a COPY in FLASH; 3, to, place, length: a COPY "
                + "that was SAVED; 4, to, length and so many CELLS: ADDS, those SENT. SIZE: how many bytes.");
        int[] want = {34, 1, 8, 6, 0, 1, 14, 7, 6, 3, 13, 0, 6, 2, 0, 21, 13, 4, 19, 8, 0, 1, 2, 3, 4, 5, 6, 7, 3, 27, 6, 7};
        PlaceMender x = Samples.gap();
        for (int i = 0; i < want.length; i++) {
            book.due("patch(" + i + ")", x.patch(i), want[i]);
        }
        book.due("behind the last", x.patch(want.length), NONE);
        book.due("SIZE", x.plan(3), want.length);
        x.burn();
        book.due("steps", x.take(), 1 + 1 + 2 + 4 + 3 + 3);
        x.go(400);
        book.due("all cells are right", x.right(), 34);
        book.due("of no cells, SIZE", new PlaceMender().plan(3), 1);
        book.due("of no cells, its byte", new PlaceMender().patch(0), 0);
        PlaceMender y = Calls.with("abc", "");
        book.due("of no cells of NEW, SIZE", y.plan(3), 1);
    }
}
