/** The boundaries that promises 13 to 18 name: commands, which must be ahead of which, rings. */
final class CommandBoundaries {
    private static final int NONE = PlaceMender.NONE;
    private static final int LEAST_INT = Integer.MIN_VALUE;
    private static final int MOST_INT = Integer.MAX_VALUE;

    private final Sentences book;

    CommandBoundaries(Sentences book) {
        this.book = book;
    }

    void all() {
        commands();
        command();
        fates();
        ahead();
        ringed();
        ring();
        shortestRing();
        fewest();
    }

    private void commands() {
        book.says(13, "How many COMMANDS.");
        book.due("of no cells", new PlaceMender().commands(), 0);
        book.due("of no cells of NEW", Calls.with("abc", "").commands(), 0);
        book.due("of no cells of OLD", Calls.with("", "abc").commands(), 1);
        book.due("of one cell", Calls.with("a", "a").commands(), 1);
        book.due("all in one stay", Calls.with(Calls.distinct(40), Calls.distinct(40)).commands(), 1);
        book.due("the most", Samples.twenty().commands(), 20);
        book.due("the most copies", Samples.thirteen().commands(), 13);
    }

    private void command() {
        book.says(14, "Of a COMMAND, what 0: 0 an ADD, 1 a COPY, 2 a STAY, 1: its place in NEW, "
                + "2: in OLD (NONE: an ADD), 3: how many CELLS,");
        PlaceMender x = Samples.twenty();
        int[][] want = {{0, 0, 0, NONE, 1}, {1, 2, 1, 1, 3}, {15, 2, 29, 29, 3}, {16, 0, 32, NONE, 1},
            {17, 1, 33, 37, 3}, {18, 0, 36, NONE, 1}, {19, 1, 37, 33, 3}};
        for (int[] w : want) {
            for (int what = 0; what < 4; what++) {
                book.due("command(" + w[0] + ", " + what + ")", x.command(w[0], what), w[what + 1]);
            }
        }
        x = Calls.with(Calls.distinct(40), Calls.distinct(40));
        book.due("forty that stay", x.command(0, 3), 40);
        x = Calls.with("", "x");
        book.due("one that is sent", x.command(0, 3), 1);
        book.says(14, "-2.");
        x = Samples.twenty();
        for (int wrong : new int[] {-1, 20, 21, 32, LEAST_INT, MOST_INT}) {
            book.due("command(" + wrong + ", 0)", x.command(wrong, 0), -2);
        }
        for (int wrong : new int[] {-1, 5, LEAST_INT, MOST_INT}) {
            book.due("ahead of NONE: command(0, " + wrong + ")", x.command(0, wrong), -2);
            book.due("command(19, " + wrong + ")", x.command(19, wrong), -2);
        }
        book.due("of no cells", new PlaceMender().command(0, 0), -2);
    }

    private void fates() {
        book.says(14, "4: 1 if it is SAVED, 2 if it is SENT by THE PLAN, else 0 (an ADD, a STAY: 0).");
        PlaceMender x = Samples.twenty();
        for (int k = 0; k < 20; k++) {
            book.due("command(" + k + ", 4)", x.command(k, 4), k == 17 ? 1 : 0);
        }
        x.terms(3, 3);
        book.due("saved by a budget of just its cells", x.command(17, 4), 1);
        x.terms(3, 2);
        for (int k = 0; k < 20; k++) {
            book.due("by a budget of one less, command(" + k + ", 4)", x.command(k, 4), k == 17 ? 2 : 0);
        }
    }

    private void ahead() {
        book.says(15, "1, if COMMAND a MUST be AHEAD of COMMAND b, else 0.");
        PlaceMender x = Samples.twenty();
        book.due("ahead(17, 19)", x.ahead(17, 19), 1);
        book.due("ahead(19, 17)", x.ahead(19, 17), 1);
        book.due("the add next to what it reads, ahead(17, 18)", x.ahead(17, 18), 0);
        book.due("an add, ahead(18, 19)", x.ahead(18, 19), 0);
        book.due("ahead(0, 19)", x.ahead(0, 19), 0);
        book.due("ahead(19, 0)", x.ahead(19, 0), 0);
        book.says(15, "-2: none such, b is a.");
        for (int wrong : new int[] {-1, 20, 31, 32, 49, LEAST_INT, MOST_INT}) {
            book.due("ahead(" + wrong + ", 17)", x.ahead(wrong, 17), -2);
            book.due("ahead(17, " + wrong + ")", x.ahead(17, wrong), -2);
            book.due("neither, ahead(" + wrong + ", " + wrong + ")", x.ahead(wrong, wrong), -2);
        }
        for (int k = 0; k < 20; k++) {
            book.due("ahead(" + k + ", " + k + ")", x.ahead(k, k), -2);
        }
        book.due("of no cells", new PlaceMender().ahead(0, 1), -2);
    }

    private void ringed() {
        book.says(16, "COMMANDS that are in a RING, as bits.");
        book.due("of no cells", new PlaceMender().ringed(), 0);
        book.due("without a ring", Calls.with("abcdef", "Xabcdef").ringed(), 0);
        book.due("stays alone", Calls.with("abcdef", "abcdef").ringed(), 0);
        book.due("the highest bits", Samples.twenty().ringed(), 1 << 17 | 1 << 19);
        book.due("all thirteen", Samples.thirteen().ringed(), (1 << 13) - 1);
        // 2 reads what is of the ring of 0 and 1, but none of these reads what 2 writes
        PlaceMender x = Calls.with("abcdefgh........", "efghabcdabc?????");
        book.due("one that only leads into a ring", x.ringed(), 3);
        book.due("it leads there", x.ahead(2, 0), 1);
    }

    private void ring() {
        book.says(17, "The shortest RING with a COMMAND, i NONE: how many, or the i-th of it, from it (0) on "
                + "(of as short ones the least row).");
        PlaceMender x = Samples.thirteen();
        for (int k = 0; k < 13; k++) {
            book.due("ring(" + k + ", NONE)", x.ring(k, NONE), 13);
            int at = k;
            for (int i = 0; i < 13; i++) {
                book.due("ring(" + k + ", " + i + ")", x.ring(k, i), at);
                at = Samples.PLACES[at];
            }
        }
        x = Samples.twenty();
        book.due("of the last command, how many", x.ring(19, NONE), 2);
        book.due("of the last command, the first", x.ring(19, 0), 19);
        book.due("of the last command, the last", x.ring(19, 1), 17);
        book.says(17, "NONE: it is in none, not so many; -2: the COMMAND; -3: i is below NONE.");
        for (int i : new int[] {NONE, 0, 1, MOST_INT}) {
            book.due("an add, ring(0, " + i + ")", x.ring(0, i), NONE);
            book.due("a stay, ring(1, " + i + ")", x.ring(1, i), NONE);
        }
        for (int i : new int[] {2, 3, MOST_INT}) {
            book.due("ring(17, " + i + ")", x.ring(17, i), NONE);
        }
        book.due("ring(0, 13) of thirteen", Samples.thirteen().ring(0, 13), NONE);
        book.due("a copy in none", Calls.with("abc", "?abc").ring(1, NONE), NONE);
        PlaceMender fewer = Samples.thirteen();
        fewer.ring(0, NONE);
        Calls.set(fewer, "abc", "???abc");
        book.due("a copy in none, where there were more commands", fewer.ring(1, NONE), NONE);
        book.due("none is in a ring then", fewer.ringed(), 0);
        for (int k : new int[] {-1, 20, 32, LEAST_INT, MOST_INT}) {
            book.due("ring(" + k + ", 0)", x.ring(k, 0), -2);
            book.due("told first: ring(" + k + ", -2)", x.ring(k, -2), -2);
        }
        for (int i : new int[] {-2, -3, LEAST_INT}) {
            book.due("ring(17, " + i + ")", x.ring(17, i), -3);
            book.due("ahead of NONE: ring(0, " + i + ")", x.ring(0, i), -3);
        }
        book.due("of no cells", new PlaceMender().ring(0, NONE), -2);
    }

    private void shortestRing() {
        book.says(17, "(of as short ones the least row)");
        PlaceMender x = Samples.twoHalves();
        book.due("0 is in two, how many", x.ring(0, NONE), 2);
        book.due("the least row", x.ring(0, 1), 1);
        book.due("2 is in one, with 0", x.ring(2, 1), 0);
        // 0 must be ahead of 1 and 2, 1 of 2, 2 of 0: the row 0, 1, 2 is less, but longer
        x = Calls.with("abcdefghijklmnop", "hijklmlmnoabcdef");
        book.due("0 in a shorter one, how many", x.ring(0, NONE), 2);
        book.due("0 in a shorter one, the last", x.ring(0, 1), 2);
        book.due("not so many", x.ring(0, 2), NONE);
        int[] row = {1, 2, 0};
        book.due("1 in the longer one, how many", x.ring(1, NONE), 3);
        for (int i = 0; i < 3; i++) {
            book.due("1 in the longer one, " + i, x.ring(1, i), row[i]);
        }
    }

    private void fewest() {
        book.says(18, "COPIES to be taken out so that there is no RING, what 0: the fewest, 1: these "
                + "(bits, of as few the least), 2: the fewest CELLS that such ones have together, 3: these (so).");
        PlaceMender[] all = {
            new PlaceMender(), Calls.with("abcdef", "Xabcdef"), Samples.twenty(), Samples.thirteen(),
            Samples.sixPairs(), Samples.twoHalves(), Calls.with("abcdefg", "defgabc"),
            Calls.with("abcdefghijklmnopqrst", "ijklmnopabcQefghRSTU"),
            Calls.with("abcdefghijklmno", "lmnhijkabcdefgh"), Calls.with("abcdefghijkl", "jklghiabcdef")
        };
        int[][] want = {{0, 0, 0, 0}, {0, 0, 0, 0}, {1, 1 << 17, 3, 1 << 17}, {1, 1, 3, 1},
            {6, 0b010101010101, 18, 0b010101010101}, {1, 1, 20, 1}, {1, 1, 3, 2}, {1, 1, 7, 0b1010}, {1, 4, 7, 3},
            {1, 4, 6, 3}};
        for (int i = 0; i < all.length; i++) {
            for (int what = 0; what < 4; what++) {
                book.due("fewest(" + what + ") of " + i, all[i].fewest(what), want[i][what]);
            }
        }
        Calls.set(all[3], "abcdef", "abcdef");
        book.due("where there was a ring, and is none then", all[3].fewest(0), 0);
        book.says(18, "-2.");
        for (int what : new int[] {-1, 4, LEAST_INT, MOST_INT}) {
            book.due("fewest(" + what + ")", all[3].fewest(what), -2);
            book.due("without rings, fewest(" + what + ")", all[0].fewest(what), -2);
        }
    }
}
