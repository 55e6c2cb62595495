/** Pairs of images whose commands can be told by looking at them. */
final class Samples {
    // command k reads what command PLACES[k] writes: one ring of all, and none next to the one that it was next to
    static final int[] PLACES = {7, 5, 3, 11, 9, 12, 2, 1, 4, 0, 8, 10, 6};

    private Samples() {
    }

    /**
     * The most commands: an add of a cell and three cells behind it, ten times. The first eight threes stay; 17 and
     * 19 are in each other's place.
     */
    static PlaceMender twenty() {
        int[] fresh = Calls.distinct(40);
        for (int k = 0; k < 10; k++) {
            fresh[4 * k] = 200 + k;
        }
        for (int i = 0; i < 3; i++) {
            fresh[33 + i] = 37 + i;
            fresh[37 + i] = 33 + i;
        }
        return Calls.with(Calls.distinct(40), fresh);
    }

    /** The most copies: thirteen of three cells, all in one ring. */
    static PlaceMender thirteen() {
        int[] fresh = new int[39];
        for (int i = 0; i < 39; i++) {
            fresh[i] = 3 * PLACES[i / 3] + i % 3;
        }
        return Calls.with(Calls.distinct(39), fresh);
    }

    /** Six rings of two copies of three cells. */
    static PlaceMender sixPairs() {
        int[] fresh = new int[36];
        for (int i = 0; i < 36; i++) {
            fresh[i] = i / 3 % 2 == 0 ? i + 3 : i - 3;
        }
        return Calls.with(Calls.distinct(36), fresh);
    }

    /** Ten rings' worth of acts: an add and three cells, ten times, the threes in five rings of two. */
    static PlaceMender fivePairsWithAdds() {
        int[] fresh = new int[40];
        for (int k = 0; k < 10; k++) {
            fresh[4 * k] = 200 + k;
            for (int i = 1; i < 4; i++) {
                fresh[4 * k + i] = 4 * (k ^ 1) + i;
            }
        }
        return Calls.with(Calls.distinct(40), fresh);
    }

    /** 0: twenty cells; 1 and 2: ten cells each, which 0 overwrites, and which overwrite what 0 reads. */
    static PlaceMender twoHalves() {
        int[] fresh = new int[40];
        for (int i = 0; i < 40; i++) {
            fresh[i] = i < 20 ? 20 + i : i < 30 ? i - 10 : i - 30;
        }
        return Calls.with(Calls.distinct(40), fresh);
    }

    /** Copies of 14, 13 and 13 cells: 0 and 2 are a ring, 1 and 2 too, 0 and 1 are none. */
    static PlaceMender threeInTwoRings() {
        int[] fresh = new int[40];
        for (int i = 0; i < 40; i++) {
            fresh[i] = i < 14 ? 26 + i : i < 27 ? 20 + i - 14 : 8 + i - 27;
        }
        return Calls.with(Calls.distinct(40), fresh);
    }

    /**
     * Copies of 13, 6, 8 and 7 cells. By RULE 0 and a BUDGET of 17 first 1 is saved, at 0 to 5, then 3, at 6 to 12;
     * 1 is done, and ten cells are free then, but not ten behind one another.
     */
    static PlaceMender gap() {
        int[] fresh = new int[34];
        for (int i = 0; i < 34; i++) {
            fresh[i] = i < 13 ? 21 + i : i < 19 ? 8 + i - 13 : i < 27 ? i - 19 : 14 + i - 27;
        }
        PlaceMender x = Calls.with(Calls.distinct(34), fresh);
        x.terms(3, 17);
        return x;
    }
}
