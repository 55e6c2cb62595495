/** The boundaries that promises 19 to 27 name: acts, the patch's bytes, budgets, rules, shares. */
final class PlanBoundaries {
    private static final int NONE = PlaceMender.NONE;
    private static final int LEAST_INT = Integer.MIN_VALUE;
    private static final int MOST_INT = Integer.MAX_VALUE;

    private final Sentences book;

    PlanBoundaries(Sentences book) {
        this.book = book;
    }

    void all() {
        acts();
        act();
        plan();
        patch();
        needs();
        sized();
        turned();
        best();
        share();
    }

    private void acts() {
        book.says(19, "How many ACTS.");
        book.due("of no cells", new PlaceMender().acts(), 0);
        book.due("of no cells of NEW", Calls.with("abc", "").acts(), 0);
        book.due("of stays alone", Calls.with("abcdef", "abcdef").acts(), 0);
        book.due("one sent", Calls.with("", "a").acts(), 1);
        book.due("thirteen in a ring: one is saved", Samples.thirteen().acts(), 13 + 1);
        book.due("twenty commands, five of them saved", Samples.fivePairsWithAdds().acts(), 20 + 5);
    }

    private void act() {
        book.says(20, "Of an ACT, what 0: 1 to 4, as in the PATCH, 1: its COMMAND, 2: its place in the STASH "
                + "(NONE: of 2, 4).");
        PlaceMender x = Samples.twoHalves();
        x.terms(3, 20);
        int[][] want = {{1, 1, 0}, {1, 2, 10}, {2, 0, NONE}, {3, 1, 0}, {3, 2, 10}};
        for (int i = 0; i < want.length; i++) {
            for (int what = 0; what < 3; what++) {
                book.due("act(" + i + ", " + what + ")", x.act(i, what), want[i][what]);
            }
        }
        PlaceMender y = Samples.twenty();
        int[][] last = {{0, 4, 0, NONE}, {9, 4, 18, NONE}, {10, 1, 17, 0}, {11, 2, 19, NONE}, {12, 3, 17, 0}};
        for (int[] w : last) {
            for (int what = 0; what < 3; what++) {
                book.due("act(" + w[0] + ", " + what + ") of twenty", y.act(w[0], what), w[what + 1]);
            }
        }
        book.says(20, "-2.");
        for (int wrong : new int[] {-1, 5, LEAST_INT, MOST_INT}) {
            book.due("act(" + wrong + ", 0)", x.act(wrong, 0), -2);
        }
        for (int wrong : new int[] {-1, 3, LEAST_INT, MOST_INT}) {
            book.due("act(0, " + wrong + ")", x.act(0, wrong), -2);
            book.due("ahead of NONE: act(2, " + wrong + ")", x.act(2, wrong), -2);
        }
        book.due("of no acts", new PlaceMender().act(0, 0), -2);
    }

    private void plan() {
        book.says(21, "What 0: how many are SAVED, 1: SENT, 2: how many CELLS of the STASH are taken at once at most, "
                + "3: SIZE.");
        PlaceMender[] all = {new PlaceMender(), Samples.twenty(), Samples.thirteen(), Samples.sixPairs(),
            Samples.fivePairsWithAdds(), Samples.twoHalves(), Samples.twoHalves()};
        all[5].terms(3, 20);
        all[6].terms(3, 19);
        int[][] want = {{0, 0, 0, 1}, {1, 0, 3, 1 + 10 * 4 + 3 * 4}, {1, 0, 3, 1 + 14 * 4}, {6, 0, 3, 1 + 18 * 4},
            {5, 0, 3, 1 + 10 * 4 + 15 * 4}, {2, 0, 20, 1 + 5 * 4}, {1, 1, 10, 1 + 3 * 4 + 3 + 10}};
        for (int i = 0; i < all.length; i++) {
            for (int what = 0; what < 4; what++) {
                book.due("plan(" + what + ") of " + i, all[i].plan(what), want[i][what]);
            }
        }
        PlaceMender x = Calls.with(new int[0], Calls.distinct(40));
        book.due("forty sent", x.plan(3), 1 + 3 + 40);
        book.due("an add isn't SENT", x.plan(1), 0);
        book.says(21, "-2.");
        for (int what : new int[] {-1, 4, LEAST_INT, MOST_INT}) {
            book.due("plan(" + what + ")", all[1].plan(what), -2);
            book.due("of no cells, plan(" + what + ")", all[0].plan(what), -2);
        }
    }

    private void patch() {
        book.says(22, "Byte i of the PATCH.");
        PlaceMender x = new PlaceMender();
        book.due("of no cells", x.patch(0), 0);
        PlaceMender y = Calls.with(new int[0], Calls.joined(Calls.distinct(39), 255));
        book.due("the first of the most cells", y.patch(0), 40);
        book.due("the last", y.patch(43), 255);
        PlaceMender z = Samples.fivePairsWithAdds();
        book.due("the last of 101", z.patch(100), 3);
        Calls.setNew(z, Calls.distinct(3));
        book.due("of a shorter one then", z.patch(0), 3);
        book.due("behind its last", z.patch(1), NONE);
        z = Samples.fivePairsWithAdds();
        book.says(22, "NONE: not so many, i is below 0.");
        PlaceMender[] all = {x, y, z};
        int[] sizes = {1, 44, 101};
        for (int k = 0; k < 3; k++) {
            for (int i : new int[] {sizes[k], -1, 159, 160, LEAST_INT, MOST_INT}) {
                book.due("patch(" + i + ") of " + sizes[k], all[k].patch(i), NONE);
            }
        }
    }

    private void needs() {
        book.says(23, "The least BUDGET by which none is SENT.");
        book.due("of no cells", new PlaceMender().needs(), 0);
        book.due("without a ring", Calls.with("abcdef", "Xabcdef").needs(), 0);
        book.due("the least of a ring", Samples.twenty().needs(), 3);
        PlaceMender x = Samples.twoHalves();
        book.due("the most", x.needs(), 20);
        x.terms(3, 20);
        book.due("whatever the budget is", x.needs(), 20);
        book.due("the budget stays", x.count(5), 20);
        book.says(23, "NONE: none up to 20.");
        // what is saved first leaves too little for the other ring, whatever the budget
        x = Samples.threeInTwoRings();
        book.due("by RULE 0", x.needs(), NONE);
        x.terms(2, 2);
        book.due("by RULE 2", x.needs(), NONE);
        x.terms(3, 20);
        book.due("how many are SENT by 20", x.plan(1), 1);
        x.terms(2, 1);
        book.due("by RULE 1 that of both rings is saved, if the first one has no place", x.needs(), 13);
    }

    private void sized() {
        book.says(24, "SIZE, were BUDGET so much (0 to 20), all else as it is.");
        PlaceMender x = Samples.twoHalves();
        for (int budget = 0; budget < 10; budget++) {
            book.due("both of ten sent, sized(" + budget + ")", x.sized(budget), 1 + 4 + 2 * (3 + 10));
        }
        for (int budget = 10; budget < 20; budget++) {
            book.due("one saved, one sent, sized(" + budget + ")", x.sized(budget), 1 + 3 * 4 + 3 + 10);
        }
        book.due("both saved, sized(20)", x.sized(20), 1 + 5 * 4);
        book.due("of no cells, sized(0)", new PlaceMender().sized(0), 1);
        book.due("of no cells, sized(20)", new PlaceMender().sized(20), 1);
        book.due("the budget stays", x.count(5), 8);
        book.says(24, "-3.");
        for (int budget : new int[] {-1, 21, LEAST_INT, MOST_INT}) {
            book.due("sized(" + budget + ")", x.sized(budget), -3);
            book.due("of no cells, sized(" + budget + ")", new PlaceMender().sized(budget), -3);
        }
    }

    private void turned() {
        book.says(25, "SIZE of a PLAN by which OLD came out of NEW (each in place of the other one), "
                + "TERMS as they are.");
        book.due("of no cells", new PlaceMender().turned(), 1);
        book.due("no cells of OLD", Calls.with("", "abc").turned(), 1);
        book.due("no cells of NEW", Calls.with("abc", "").turned(), 1 + 3 + 3);
        book.due("forty of OLD, none of NEW", Calls.with(Calls.distinct(40), new int[0]).turned(), 1 + 3 + 40);
        PlaceMender x = Calls.with("abcdefg", "defgabc");
        book.due("a ring, a budget of enough", x.turned(), 1 + 3 * 4);
        x.terms(3, 3);
        book.due("a budget of just enough", x.turned(), 1 + 3 * 4);
        x.terms(3, 2);
        book.due("a budget of one less", x.turned(), 1 + 4 + 3 + 3);
        x.terms(0, 4);
        book.due("LEAST above the shorter one", x.turned(), 1 + 4 + 3 + 3);
        x.terms(0, 5);
        book.due("LEAST above both", x.turned(), 1 + 3 + 7);
    }

    private void best() {
        book.says(26, "The RULE (what 0), the CHOICE (1) by which, all else as it is, SIZE is least; the lowest.");
        book.due("of no cells, the rule", new PlaceMender().best(0), 0);
        book.due("of no cells, the choice", new PlaceMender().best(1), 0);
        PlaceMender x = Calls.with("abcXabc", "????abc");
        book.due("the rule, all alike", x.best(0), 0);
        book.due("the choice, the last two alike", x.best(1), 1);
        bestOfThree("the first choice alone", 1, 20, "defYdef", "abcdefdef", 0);
        bestOfThree("the second choice alone", 1, 8, "XghiXYghi", "ghighi", 1);
        bestOfThree("the third choice alone", 1, 8, "defYdef", "def?def", 2);
        bestOfThree("the first rule alone", 0, 4, "abcdefghijklmnopqr", "klmnoghijpqrabcdef", 0);
        bestOfThree("the second rule alone", 0, 4, "abcdefghij", "hijefgabcd", 1);
        bestOfThree("the third rule alone", 0, 4, "abcdefghijklmno", "ijklmnoabcd?fgh", 2);
        x = Calls.with("abcdefghijklmnopqrst", "ijklmnopabcQefghRSTU");
        book.due("the rule, the last two alike", x.best(0), 1);
        x.terms(2, 2);
        x.terms(1, 2);
        book.due("whatever the rule is", x.best(0), 1);
        book.due("whatever the choice is", x.best(1), 0);
        book.due("the rule stays", x.count(4), 2);
        book.due("the choice stays", x.count(3), 2);
        book.says(26, "-2.");
        for (int what : new int[] {-1, 2, LEAST_INT, MOST_INT}) {
            book.due("best(" + what + ")", x.best(what), -2);
            book.due("of no cells, best(" + what + ")", new PlaceMender().best(what), -2);
        }
    }

    private void bestOfThree(String told, int what, int budget, String old, String fresh, int want) {
        PlaceMender x = Calls.with(old, fresh);
        x.terms(3, budget);
        book.due(told, x.best(what), want);
        int[] sizes = new int[3];
        for (int v = 0; v < 3; v++) {
            x.terms(2 - what, v);
            sizes[v] = x.plan(3);
        }
        for (int v = 0; v < 3; v++) {
            book.due(told + ", less than by " + v, v == want || sizes[want] < sizes[v] ? 1 : 0, 1);
        }
    }

    private void share() {
        book.says(27, "The share of NEW's CELLS that are of STAYS (what 0), of COPIES that aren't SENT (1), that are "
                + "sent (2), as a float (of so many CELLS by all; 0, if there are none): its bits "
                + "(as Float.floatToIntBits tells).");
        int none = 0;
        int whole = Float.floatToIntBits(1f);
        PlaceMender[] all = {new PlaceMender(), Calls.with("abc", ""), Calls.with("abc", "abc"),
            Calls.with("xabc", "abc"), Calls.with("", "abc")};
        int[][] want = {{none, none, none}, {none, none, none}, {whole, none, none}, {none, whole, none},
            {none, none, whole}};
        for (int i = 0; i < all.length; i++) {
            for (int what = 0; what < 3; what++) {
                book.due("share(" + what + ") of " + i, all[i].share(what), want[i][what]);
            }
        }
        PlaceMender x = Samples.twenty();
        book.due("stays of twenty", x.share(0), Float.floatToIntBits(24 / 40f));
        book.due("copies of twenty", x.share(1), Float.floatToIntBits(6 / 40f));
        book.due("sent of twenty", x.share(2), Float.floatToIntBits(10 / 40f));
        x.terms(3, 2);
        book.due("copies without a budget", x.share(1), Float.floatToIntBits(3 / 40f));
        book.due("sent without a budget", x.share(2), Float.floatToIntBits(13 / 40f));
        roundedShares();
        book.says(27, "-2.");
        for (int what : new int[] {-1, 3, LEAST_INT, MOST_INT}) {
            book.due("share(" + what + ")", x.share(what), -2);
            book.due("of no cells, share(" + what + ")", all[0].share(what), -2);
        }
    }

    /** Every share that there can be, from the least (1 of 40) to the whole. */
    private void roundedShares() {
        for (int size = 1; size <= 40; size++) {
            for (int part = 0; part <= size; part++) {
                if (part > 0 && part < 3) {
                    continue;
                }
                PlaceMender x = Calls.with(Calls.distinct(part),
                        Calls.joined(Calls.distinct(part), Calls.filled(size - part, 99)));
                book.due(part + " of " + size, x.share(0), Float.floatToIntBits((float) part / size));
                book.due(size - part + " of " + size, x.share(2), Float.floatToIntBits((float) (size - part) / size));
            }
        }
    }
}
