import java.util.Arrays;

/**
 * Firmware that is patched in place: a plan of copies, stays and sent cells that turns an old image
 * into a new one, and a device that takes it block by block and survives having its power cut.
 *
 * <p>All rows are made in the constructors and used again: what the calls of one run make is counted.
 */
public final class PlaceMender {
    public static final int NONE = -1;

    private static final int NO_SUCH = -2;
    private static final int BAD_NUMBER = -3;
    private static final int NOT_NOW = -5;
    private static final int BAD_PATCH = -30;

    private static final int IMAGE_CELLS = 40;
    private static final int FED_BYTES = 20;
    private static final int TAPE_BYTES = 160;
    private static final int IMAGES = 2;

    private static final int TERMS = 4;
    private static final int LEAST = 0;
    private static final int CHOICE = 1;
    private static final int RULE = 2;
    private static final int BUDGET = 3;
    private static final int RULES = 3;
    private static final int CHOICES = 3;
    private static final int[] FIRST_TERM = {3, 0, 0, 8};
    private static final int[] LOWEST_TERM = {3, 0, 0, 0};
    private static final int[] HIGHEST_TERM = {8, 2, 2, 20};

    // 3 cells of a copy and 1 of an add, in turn, are the most commands that 40 cells can have
    private static final int MOST_COMMANDS = 20;
    private static final int ADD = 0;
    private static final int COPY = 1;
    private static final int STAY = 2;

    private static final int SAVE = 1;
    private static final int MOVE = 2;
    private static final int UNSAVE = 3;
    private static final int SEND = 4;
    private static final int ACT_BYTES = 4;
    private static final int SEND_BYTES = 3;

    private static final int FLASH_CELLS = 40;
    private static final int STASH_CELLS = 20;
    private static final int BLOCKS = 10;
    private static final int BLOCK_CELLS = 4;
    private static final int ERASED = 255;
    private static final int MOST_ACTS = 36;
    private static final int MOST_STEPS = MOST_ACTS * BLOCKS;
    private static final int MOST_GONE = 400;
    private static final int PHASES = 4;
    private static final int PAPER_CELLS = 2;
    private static final int MOST_UNDONE = 10;

    private static final int FAULT_CODE = 1;
    private static final int FAULT_END = 2;
    private static final int FAULT_NUMBER = 3;
    private static final int FAULT_ACTS = 4;

    private final State state;
    private final State[] images;
    private final boolean[] imageMade;
    private final Cells tape;
    private final Reader latestLoad;
    private final History history;
    private final Suffixes suffixes;
    private final Script script;
    private final Plan plan;
    private final Script otherScript;
    private final Plan otherPlan;
    private final Course course;
    private final Trials trials;
    private boolean suffixesStale;
    private boolean planStale;
    private boolean courseStale;

    public PlaceMender() {
        state = new State();
        images = new State[IMAGES];
        for (int i = 0; i < IMAGES; i++) {
            images[i] = new State();
        }
        imageMade = new boolean[IMAGES];
        tape = new Cells(TAPE_BYTES);
        latestLoad = new Reader();
        history = new History();
        suffixes = new Suffixes();
        script = new Script();
        plan = new Plan();
        otherScript = new Script();
        otherPlan = new Plan();
        course = new Course();
        trials = new Trials();
        suffixesStale = true;
        planStale = true;
        courseStale = true;
    }

    // ---- images, terms

    public int feed(int a, int b, int c, int d, int e) {
        if (tape.size + FED_BYTES > TAPE_BYTES) {
            return NOT_NOW;
        }
        feedWord(a);
        feedWord(b);
        feedWord(c);
        feedWord(d);
        feedWord(e);
        return tape.size;
    }

    public int old(int n) {
        return takeCells(state.oldCells, n);
    }

    public int fresh(int n) {
        return takeCells(state.newCells, n);
    }

    public int cell(int what, int i) {
        switch (what) {
            case 0:
                return state.oldCells.at(i);
            case 1:
                return state.newCells.at(i);
            case 2:
                return elementOf(state.device.flash, i);
            case 3:
                return elementOf(state.device.stash, i);
            default:
                return NO_SUCH;
        }
    }

    public int terms(int what, int v) {
        if (what < 0 || what >= TERMS) {
            return NO_SUCH;
        }
        if (v < LOWEST_TERM[what] || v > HIGHEST_TERM[what]) {
            return BAD_NUMBER;
        }
        int was = state.terms[what];
        state.terms[what] = v;
        planStale = true;
        return was;
    }

    // ---- suffixes, runs

    public int suffix(int i) {
        sortSuffixes();
        return i >= 0 && i < suffixes.size ? suffixes.order[i] : NONE;
    }

    public int shared(int i) {
        sortSuffixes();
        return i >= 0 && i < suffixes.size - 1 ? suffixes.alikeNext[i] : NONE;
    }

    public int unlike(int n) {
        if (n < 1 || n > IMAGE_CELLS) {
            return BAD_NUMBER;
        }
        sortSuffixes();
        return suffixes.unlikeRows(n);
    }

    public int run(int j, int what) {
        if (j < 0 || j >= state.newCells.size || what < 0 || what > 2) {
            return NO_SUCH;
        }
        otherScript.findRun(state.oldCells, state.newCells, j, state.terms[CHOICE]);
        if (what == 0) {
            return otherScript.longest;
        }
        return what == 1 ? otherScript.chosen : otherScript.many;
    }

    public int widest(int what) {
        if (what < 0 || what > 2) {
            return NO_SUCH;
        }
        int most = 0;
        int cell = NONE;
        int from = NONE;
        for (int j = 0; j < state.newCells.size; j++) {
            otherScript.findRun(state.oldCells, state.newCells, j, state.terms[CHOICE]);
            if (otherScript.longest > most) {
                most = otherScript.longest;
                cell = j;
                from = otherScript.chosen;
            }
        }
        if (what == 0) {
            return most;
        }
        return what == 1 ? cell : from;
    }

    public int least() {
        return otherScript.leastSize(state.oldCells, state.newCells, state.terms[LEAST]);
    }

    // ---- commands

    public int commands() {
        makePlan();
        return script.size;
    }

    public int command(int k, int what) {
        makePlan();
        if (!script.has(k)) {
            return NO_SUCH;
        }
        switch (what) {
            case 0:
                return script.kind[k];
            case 1:
                return script.place[k];
            case 2:
                return script.source[k];
            case 3:
                return script.length[k];
            case 4:
                return plan.fateOf(k);
            default:
                return NO_SUCH;
        }
    }

    public int ahead(int a, int b) {
        makePlan();
        if (!script.has(a) || !script.has(b) || a == b) {
            return NO_SUCH;
        }
        return hasBit(script.next[a], b) ? 1 : 0;
    }

    public int ringed() {
        makePlan();
        return script.rings.members(script.next, script.movers());
    }

    public int ring(int k, int i) {
        makePlan();
        if (!script.has(k)) {
            return NO_SUCH;
        }
        if (i < NONE) {
            return BAD_NUMBER;
        }
        Rings rings = script.rings;
        rings.findShortest(script.next, k);
        if (rings.rowSize == 0) {
            return NONE;
        }
        if (i == NONE) {
            return rings.rowSize;
        }
        return i < rings.rowSize ? rings.row[i] : NONE;
    }

    public int fewest(int what) {
        if (what < 0 || what > 3) {
            return NO_SUCH;
        }
        makePlan();
        Rings rings = script.rings;
        rings.weigh(script);
        switch (what) {
            case 0:
                return rings.fewestCopies;
            case 1:
                return rings.fewestCopiesBits;
            case 2:
                return rings.fewestCells;
            default:
                return rings.fewestCellsBits;
        }
    }

    // ---- the plan

    public int acts() {
        makePlan();
        return plan.actCount;
    }

    public int act(int i, int what) {
        makePlan();
        if (i < 0 || i >= plan.actCount) {
            return NO_SUCH;
        }
        switch (what) {
            case 0:
                return plan.actKind[i];
            case 1:
                return plan.actCommand[i];
            case 2:
                return plan.actPlace[i];
            default:
                return NO_SUCH;
        }
    }

    public int plan(int what) {
        makePlan();
        switch (what) {
            case 0:
                return Integer.bitCount(plan.savedBits);
            case 1:
                return Integer.bitCount(plan.sentBits);
            case 2:
                return plan.mostTaken;
            case 3:
                return plan.bytes;
            default:
                return NO_SUCH;
        }
    }

    public int patch(int i) {
        makePlan();
        return plan.patchBytes.at(i);
    }

    public int needs() {
        makePlan();
        for (int budget = 0; budget <= HIGHEST_TERM[BUDGET]; budget++) {
            otherPlan.build(script, state.terms[RULE], budget);
            if (otherPlan.sentBits == 0) {
                return budget;
            }
        }
        return NONE;
    }

    public int sized(int budget) {
        if (budget < 0 || budget > HIGHEST_TERM[BUDGET]) {
            return BAD_NUMBER;
        }
        makePlan();
        otherPlan.build(script, state.terms[RULE], budget);
        return otherPlan.bytes;
    }

    public int turned() {
        otherScript.build(state.newCells, state.oldCells, state.terms[LEAST], state.terms[CHOICE]);
        otherPlan.build(otherScript, state.terms[RULE], state.terms[BUDGET]);
        return otherPlan.bytes;
    }

    public int best(int what) {
        if (what < 0 || what > 1) {
            return NO_SUCH;
        }
        makePlan();
        return what == 0 ? bestRule() : bestChoice();
    }

    public int share(int what) {
        if (what < 0 || what > 2) {
            return NO_SUCH;
        }
        makePlan();
        int cells = 0;
        for (int k = 0; k < script.size; k++) {
            if (shareOf(k) == what) {
                cells += script.length[k];
            }
        }
        return floatBits(cells, state.newCells.size);
    }

    // ---- the device

    public int burn() {
        history.keep(state.device);
        state.device.burnCells(state.oldCells);
        courseStale = true;
        return 0;
    }

    public int take() {
        if (!state.device.powered) {
            return NOT_NOW;
        }
        makePlan();
        takePatch(plan.patchBytes, plan.patchBytes.size);
        makeCourse();
        return course.stepCount;
    }

    public int load(int n) {
        if (n < 0 || n > tape.size) {
            return BAD_NUMBER;
        }
        if (!state.device.powered) {
            return NOT_NOW;
        }
        latestLoad.readActs(tape, n);
        if (latestLoad.faultCode == 0) {
            takePatch(tape, n);
        }
        tape.size = 0;
        makeCourse();
        return latestLoad.faultCode == 0 ? course.stepCount : BAD_PATCH - latestLoad.faultCode;
    }

    public int fault(int what) {
        if (what == 0) {
            return latestLoad.faultCode;
        }
        return what == 1 ? latestLoad.faultPlace : NONE;
    }

    public int steps() {
        makeCourse();
        return course.stepCount;
    }

    public int step(int s, int what) {
        makeCourse();
        if (s < 0 || s >= course.stepCount || what < 0 || what > 2) {
            return NO_SUCH;
        }
        if (what == 0) {
            return course.stepAct[s];
        }
        int block = course.stepBlock[s];
        if (what == 1 || block == NONE) {
            return block;
        }
        return course.dueBlock(s, block) == course.dueBlock(s + 1, block) ? 0 : 1;
    }

    public int go(int n) {
        if (n < 1 || n > MOST_GONE) {
            return BAD_NUMBER;
        }
        if (!state.device.powered) {
            return NOT_NOW;
        }
        makeCourse();
        int done = Math.min(n, course.stepCount - state.device.stepNumber);
        if (done < 1) {
            return 0;
        }
        history.keep(state.device);
        for (int i = 0; i < done; i++) {
            course.doStep(state.device);
        }
        return done;
    }

    public int cut(int phase, int c) {
        if (phase < 0 || phase >= PHASES || c < 0 || c >= BLOCK_CELLS) {
            return BAD_NUMBER;
        }
        makeCourse();
        Device device = state.device;
        if (!device.powered || device.stepNumber >= course.stepCount) {
            return NOT_NOW;
        }
        history.keep(device);
        course.cutPower(device, phase, c);
        return device.stepNumber;
    }

    public int forget() {
        Device device = state.device;
        if (device.powered || !device.stepKnown) {
            return NOT_NOW;
        }
        history.keep(device);
        device.stepKnown = false;
        return 0;
    }

    public int boot() {
        Device device = state.device;
        makeCourse();
        if (device.powered || !course.canBoot(device)) {
            return NOT_NOW;
        }
        history.keep(device);
        course.bootUp(device);
        return device.stepNumber;
    }

    public int spoil(int cell, int v) {
        if (cell < 0 || cell >= FLASH_CELLS) {
            return NO_SUCH;
        }
        if (v < 0 || v > 255) {
            return BAD_NUMBER;
        }
        history.keep(state.device);
        int was = state.device.flash[cell];
        state.device.flash[cell] = v;
        return was;
    }

    public int undo(int n) {
        if (n < 1 || n > MOST_UNDONE || n > history.size) {
            return BAD_NUMBER;
        }
        history.goBack(n, state.device);
        courseStale = true;
        return history.size;
    }

    public long digest(int block) {
        if (block < 0 || block >= BLOCKS) {
            return NO_SUCH;
        }
        return digestOf(packed(state.device.flash, block * BLOCK_CELLS));
    }

    public long due(int s, int block) {
        makeCourse();
        if (s < 0 || s > course.stepCount || block < 0 || block >= BLOCKS) {
            return NO_SUCH;
        }
        return digestOf(course.dueBlock(s, block));
    }

    public int fits(int what) {
        if (what < 0 || what > 2) {
            return NO_SUCH;
        }
        makeCourse();
        course.look(state.device, false);
        if (what == 0) {
            return course.firstFit(state.device.stash);
        }
        return what == 1 ? course.lastFit(state.device.stash) : course.countFits(state.device.stash);
    }

    public int right() {
        int found = 0;
        for (int i = 0; i < state.newCells.size && i < FLASH_CELLS; i++) {
            if (state.newCells.row[i] == state.device.flash[i]) {
                found++;
            }
        }
        return found;
    }

    // ---- on paper

    public int hazard(int what) {
        if (what < 0 || what > 1) {
            return NO_SUCH;
        }
        makeCourse();
        Reader taken = course.reader;
        for (int i = 0; i < taken.actCount; i++) {
            int cell = taken.firstOverwritten(i);
            if (cell != NONE) {
                return what == 0 ? i : cell;
            }
        }
        return NONE;
    }

    public int wear(int block) {
        if (block < 0 || block >= BLOCKS) {
            return NO_SUCH;
        }
        makeCourse();
        int times = 0;
        for (int s = 0; s < course.stepCount; s++) {
            if (course.stepBlock[s] == block) {
                times++;
            }
        }
        return times;
    }

    public int cuts(int what) {
        if (what < 0 || what >= Trials.KINDS) {
            return NO_SUCH;
        }
        makeCourse();
        return trials.survived(course, what);
    }

    public int twice(int phase, int other) {
        if (phase < 0 || phase >= PHASES || other < 0 || other >= PHASES) {
            return BAD_NUMBER;
        }
        makeCourse();
        return trials.survivedTwice(course, phase, other);
    }

    public int odds(int what, int part) {
        if (what < 1 || what >= Trials.KINDS || part < 0 || part > 1) {
            return NO_SUCH;
        }
        makeCourse();
        int above = trials.survived(course, what);
        int below = trials.survived(course, Trials.ALL);
        if (below == 0) {
            return NONE;
        }
        int divisor = commonDivisor(above, below);
        if (divisor < 1) {
            return NONE;
        }
        return (part == 0 ? above : below) / divisor;
    }

    // ---- images

    public int image(int i) {
        if (i < 0 || i >= IMAGES) {
            return NO_SUCH;
        }
        images[i].copyFrom(state);
        imageMade[i] = true;
        return 0;
    }

    public int restore(int i) {
        if (i < 0 || i >= IMAGES) {
            return NO_SUCH;
        }
        if (!imageMade[i]) {
            return NOT_NOW;
        }
        state.copyFrom(images[i]);
        history.clear();
        suffixesStale = true;
        planStale = true;
        courseStale = true;
        return 0;
    }

    public int count(int what) {
        switch (what) {
            case 0:
                return state.oldCells.size;
            case 1:
                return state.newCells.size;
            case 2:
            case 3:
            case 4:
            case 5:
                return state.terms[what - 2];
            case 6:
                makeCourse();
                return course.reader.actCount;
            case 7:
                return state.device.stepKnown ? state.device.stepNumber : NONE;
            case 8:
                return state.device.powered ? 1 : 0;
            case 9:
                return state.device.journalBlock;
            case 10:
                return history.size;
            case 11:
                return tape.size;
            default:
                return NONE;
        }
    }

    // ---- parts of the calls

    private void feedWord(int word) {
        for (int shift = 24; shift >= 0; shift -= 8) {
            tape.push(word >>> shift & 255);
        }
    }

    private int takeCells(Cells target, int n) {
        if (n < 0 || n > IMAGE_CELLS || n > tape.size) {
            return BAD_NUMBER;
        }
        target.copyFirst(tape, n);
        tape.size = 0;
        suffixesStale = true;
        planStale = true;
        return n;
    }

    private void takePatch(Cells bytes, int n) {
        history.keep(state.device);
        state.device.start(bytes, n);
        courseStale = true;
    }

    private void sortSuffixes() {
        if (suffixesStale) {
            suffixes.sort(state.oldCells);
            suffixesStale = false;
        }
    }

    private void makePlan() {
        if (planStale) {
            script.build(state.oldCells, state.newCells, state.terms[LEAST], state.terms[CHOICE]);
            plan.build(script, state.terms[RULE], state.terms[BUDGET]);
            plan.write(script, state.newCells);
            planStale = false;
        }
    }

    private void makeCourse() {
        if (courseStale) {
            course.build(state.device);
            trials.clear();
            courseStale = false;
        }
    }

    private int bestRule() {
        int found = 0;
        int fewestBytes = 0;
        for (int rule = 0; rule < RULES; rule++) {
            otherPlan.build(script, rule, state.terms[BUDGET]);
            if (rule == 0 || otherPlan.bytes < fewestBytes) {
                found = rule;
                fewestBytes = otherPlan.bytes;
            }
        }
        return found;
    }

    private int bestChoice() {
        int found = 0;
        int fewestBytes = 0;
        for (int choice = 0; choice < CHOICES; choice++) {
            otherScript.build(state.oldCells, state.newCells, state.terms[LEAST], choice);
            otherPlan.build(otherScript, state.terms[RULE], state.terms[BUDGET]);
            if (choice == 0 || otherPlan.bytes < fewestBytes) {
                found = choice;
                fewestBytes = otherPlan.bytes;
            }
        }
        return found;
    }

    /** In which of the three shares the cells of a command are. */
    private int shareOf(int k) {
        if (script.kind[k] == STAY) {
            return 0;
        }
        return script.kind[k] == COPY && plan.fateOf(k) != Plan.SENT ? 1 : 2;
    }

    // ---- numbers

    private static int elementOf(int[] row, int i) {
        return i >= 0 && i < row.length ? row[i] : NONE;
    }

    /** The bits of the float that is nearest to part / all; of two the even one, as a division rounds. */
    private static int floatBits(int part, int all) {
        if (part <= 0 || all <= 0 || part > all) {
            return 0;
        }
        long above = part;
        int exponent = 127;
        for (; above < all && exponent > 0; exponent--) {
            above *= 2;
        }
        above <<= 23;
        long fraction = above / all;
        long twiceRest = above % all * 2;
        if (twiceRest > all || twiceRest == all && (fraction & 1) == 1) {
            fraction++;
        }
        return (exponent << 23) + (int) (fraction - (1 << 23));
    }

    private static int commonDivisor(int a, int b) {
        int greater = a;
        int lesser = b;
        // the rest is less than half of what it was two turns ago
        for (int turn = 0; turn < 64 && lesser > 0; turn++) {
            int rest = greater % lesser;
            greater = lesser;
            lesser = rest;
        }
        return greater;
    }

    private static boolean hasBit(int bits, int k) {
        return (bits >>> k & 1) == 1;
    }

    /** So many ones, the lowest of them at a place. */
    private static int onesFrom(int at, int many) {
        return (1 << many) - 1 << at;
    }

    private static int lowestBit(int bits) {
        int lowest = Integer.numberOfTrailingZeros(bits);
        return lowest < MOST_COMMANDS ? lowest : 0;
    }

    /** Four cells as one int: two blocks have like digests just if these are like. */
    private static int packed(int[] cells, int from) {
        int word = 0;
        for (int i = from; i < from + BLOCK_CELLS && i >= 0 && i < cells.length; i++) {
            word = word << 8 | cells[i] & 255;
        }
        return word;
    }

    private static long digestOf(int word) {
        return (word & 4294967295L) * 1664525L + 1013904223L & 4294967295L;
    }

    /** A row of bytes, of which the first ones are in use. */
    private static final class Cells {
        final int[] row;
        int size;

        Cells(int most) {
            row = new int[Math.max(most, 0)];
        }

        int at(int i) {
            return i >= 0 && i < size ? row[i] : NONE;
        }

        void push(int v) {
            if (size < row.length) {
                row[size] = v;
                size++;
            }
        }

        void copyFirst(Cells other, int n) {
            size = Math.max(0, Math.min(n, Math.min(row.length, other.size)));
            System.arraycopy(other.row, 0, row, 0, size);
        }

        /** How many cells from i on are the same as those of the other one from j on. */
        int alike(int i, Cells other, int j) {
            if (i < 0 || j < 0) {
                return 0;
            }
            int most = Math.min(size - i, other.size - j);
            int n = 0;
            while (n < most && row[i + n] == other.row[j + n]) {
                n++;
            }
            return n;
        }
    }

    /** All that an image holds. */
    private static final class State {
        final Cells oldCells;
        final Cells newCells;
        final int[] terms;
        final Device device;

        State() {
            oldCells = new Cells(IMAGE_CELLS);
            newCells = new Cells(IMAGE_CELLS);
            terms = new int[TERMS];
            System.arraycopy(FIRST_TERM, 0, terms, 0, TERMS);
            device = new Device();
        }

        void copyFrom(State other) {
            oldCells.copyFirst(other.oldCells, other.oldCells.size);
            newCells.copyFirst(other.newCells, other.newCells.size);
            System.arraycopy(other.terms, 0, terms, 0, TERMS);
            device.copyFrom(other.device);
        }
    }

    /** The suffixes of an image in their order. */
    private static final class Suffixes {
        final int[] order;
        final int[] alikeNext;
        int size;

        Suffixes() {
            order = new int[IMAGE_CELLS];
            alikeNext = new int[IMAGE_CELLS];
        }

        void sort(Cells text) {
            size = text.size;
            for (int i = 0; i < size; i++) {
                insert(text, i);
            }
            for (int k = 0; k + 1 < size; k++) {
                alikeNext[k] = text.alike(order[k], text, order[k + 1]);
            }
        }

        private void insert(Cells text, int i) {
            int k = i;
            while (k > 0 && isBefore(text, i, order[k - 1])) {
                order[k] = order[k - 1];
                k--;
            }
            order[k] = i;
        }

        private static boolean isBefore(Cells text, int i, int j) {
            int n = text.alike(i, text, j);
            if (i + n >= text.size || j + n >= text.size) {
                return i > j;
            }
            return text.row[i + n] < text.row[j + n];
        }

        int unlikeRows(int n) {
            int found = 0;
            for (int k = 0; k < size; k++) {
                boolean longEnough = size - order[k] >= n;
                if (longEnough && (k == 0 || alikeNext[k - 1] < n)) {
                    found++;
                }
            }
            return found;
        }
    }

    /** The commands that make one image out of another one, and which must be ahead of which. */
    private static final class Script {
        static final int FAR = 1 << 20;

        final int[] kind;
        final int[] place;
        final int[] source;
        final int[] length;
        // bit b of next[a]: a must be ahead of b
        final int[] next;
        final Rings rings;
        // the least bytes for the cells ahead of one, if no add, if an add comes last
        final int[] closed;
        final int[] adding;
        int size;
        // the run that was found last
        int longest;
        int chosen;
        int many;

        Script() {
            kind = new int[MOST_COMMANDS];
            place = new int[MOST_COMMANDS];
            source = new int[MOST_COMMANDS];
            length = new int[MOST_COMMANDS];
            next = new int[MOST_COMMANDS];
            rings = new Rings();
            closed = new int[IMAGE_CELLS + 1];
            adding = new int[IMAGE_CELLS + 1];
        }

        boolean has(int k) {
            return k >= 0 && k < size;
        }

        void findRun(Cells text, Cells wanted, int j, int choice) {
            longest = 0;
            chosen = NONE;
            many = 0;
            for (int f = 0; f < text.size; f++) {
                int n = text.alike(f, wanted, j);
                if (n > longest) {
                    longest = n;
                    chosen = f;
                    many = 1;
                } else if (n > 0 && n == longest) {
                    many++;
                    if (isPreferred(f, j, choice)) {
                        chosen = f;
                    }
                }
            }
        }

        /** Whether f, above the one that is chosen so far, goes ahead of it. */
        private boolean isPreferred(int f, int j, int choice) {
            if (choice == 2) {
                return Math.abs(f - j) < Math.abs(chosen - j);
            }
            return choice == 1;
        }

        void build(Cells text, Cells wanted, int least, int choice) {
            size = 0;
            rings.weighed = false;
            int j = 0;
            while (j < wanted.size) {
                findRun(text, wanted, j, choice);
                if (longest > 0 && longest >= least) {
                    append(chosen == j ? STAY : COPY, j, chosen, longest);
                    j += longest;
                } else {
                    addCell(j);
                    j++;
                }
            }
            findOrder();
        }

        private void addCell(int j) {
            if (size > 0 && kind[size - 1] == ADD) {
                length[size - 1]++;
            } else {
                append(ADD, j, NONE, 1);
            }
        }

        private void append(int itsKind, int itsPlace, int itsSource, int itsLength) {
            if (size < MOST_COMMANDS) {
                kind[size] = itsKind;
                place[size] = itsPlace;
                source[size] = itsSource;
                length[size] = itsLength;
                size++;
            }
        }

        private void findOrder() {
            // rows of an earlier, longer script lead nowhere any more
            Arrays.fill(next, 0);
            for (int a = 0; a < size; a++) {
                for (int b = 0; b < size; b++) {
                    if (mustBeAhead(a, b)) {
                        next[a] |= 1 << b;
                    }
                }
            }
        }

        private boolean mustBeAhead(int a, int b) {
            if (a == b || kind[a] != COPY || kind[b] == STAY) {
                return false;
            }
            return place[b] < source[a] + length[a] && source[a] < place[b] + length[b];
        }

        /** The copies, without stays, as bits. */
        int movers() {
            int found = 0;
            for (int k = 0; k < size; k++) {
                if (kind[k] == COPY) {
                    found |= 1 << k;
                }
            }
            return found;
        }

        /** All commands but stays, as bits. */
        int writers() {
            int found = 0;
            for (int k = 0; k < size; k++) {
                if (kind[k] != STAY) {
                    found |= 1 << k;
                }
            }
            return found;
        }

        int leastSize(Cells text, Cells wanted, int least) {
            Arrays.fill(closed, FAR);
            Arrays.fill(adding, FAR);
            closed[0] = 1;
            for (int j = 0; j < wanted.size; j++) {
                adding[j + 1] = Math.min(closed[j] + SEND_BYTES, adding[j]) + 1;
                findRun(text, wanted, j, 0);
                int soFar = Math.min(closed[j], adding[j]);
                int staying = text.alike(j, wanted, j);
                for (int n = least; n <= longest && j + n <= wanted.size; n++) {
                    int bytes = soFar + (n <= staying ? 0 : ACT_BYTES);
                    closed[j + n] = Math.min(closed[j + n], bytes);
                }
            }
            return Math.min(closed[wanted.size], adding[wanted.size]);
        }
    }

    /** Rings of commands, each of which must be ahead of the next one. */
    private static final class Rings {
        final int[] reach;
        final int[] toward;
        final int[] row;
        int rowSize;
        boolean weighed;
        int fewestCopies;
        int fewestCopiesBits;
        int fewestCells;
        int fewestCellsBits;

        Rings() {
            reach = new int[MOST_COMMANDS];
            toward = new int[MOST_COMMANDS + 1];
            row = new int[MOST_COMMANDS];
        }

        /** Those of the alive ones that are in a ring of alive ones. */
        int members(int[] next, int alive) {
            for (int u = 0; u < MOST_COMMANDS; u++) {
                reach[u] = hasBit(alive, u) ? next[u] & alive : 0;
            }
            for (int v = 0; v < MOST_COMMANDS; v++) {
                for (int u = 0; u < MOST_COMMANDS && reach[v] != 0; u++) {
                    if (hasBit(reach[u], v)) {
                        reach[u] |= reach[v];
                    }
                }
            }
            int found = 0;
            for (int u = 0; u < MOST_COMMANDS; u++) {
                found |= reach[u] & 1 << u;
            }
            return found;
        }

        /** The least of the shortest rows of commands that lead from k to k. */
        void findShortest(int[] next, int k) {
            rowSize = 0;
            // toward[n]: those from which n commands lead to k
            toward[0] = 1 << k;
            for (int n = 1; n <= MOST_COMMANDS && rowSize == 0; n++) {
                toward[n] = leadingInto(next, toward[n - 1]);
                if (hasBit(toward[n], k)) {
                    rowSize = n;
                }
            }
            int at = k;
            for (int i = 0; i < rowSize; i++) {
                row[i] = at;
                at = lowestBit(next[at] & toward[rowSize - 1 - i]);
            }
        }

        private static int leadingInto(int[] next, int goals) {
            int found = 0;
            for (int u = 0; u < MOST_COMMANDS; u++) {
                if ((next[u] & goals) != 0) {
                    found |= 1 << u;
                }
            }
            return found;
        }

        /** Finds the fewest copies, and those of the fewest cells, without which there is no ring. */
        void weigh(Script script) {
            if (weighed) {
                return;
            }
            weighed = true;
            int ringed = members(script.next, script.movers());
            fewestCopies = Script.FAR;
            fewestCells = Script.FAR;
            int sets = 1 << Integer.bitCount(ringed);
            int out = 0;
            for (int i = 0; i < sets; i++) {
                weighSet(script, ringed, out);
                // the next greater one of the sets of these bits
                out = out - ringed & ringed;
            }
        }

        private void weighSet(Script script, int ringed, int out) {
            int copies = Integer.bitCount(out);
            int cells = 0;
            for (int k = 0; k < script.size; k++) {
                cells += hasBit(out, k) ? script.length[k] : 0;
            }
            boolean better = copies < fewestCopies || cells < fewestCells;
            if (!better || !isWithoutRing(script.next, ringed & ~out)) {
                return;
            }
            if (copies < fewestCopies) {
                fewestCopies = copies;
                fewestCopiesBits = out;
            }
            if (cells < fewestCells) {
                fewestCells = cells;
                fewestCellsBits = out;
            }
        }

        private static boolean isWithoutRing(int[] next, int alive) {
            int left = alive;
            for (int round = 0; round < MOST_COMMANDS && left != 0; round++) {
                int stuck = 0;
                for (int k = 0; k < MOST_COMMANDS; k++) {
                    if (hasBit(left, k) && (next[k] & left) != 0) {
                        stuck |= 1 << k;
                    }
                }
                if (stuck == left) {
                    return false;
                }
                left = stuck;
            }
            return left == 0;
        }
    }

    /** The acts by which a script's commands are done, none ahead of one that reads what it writes. */
    private static final class Plan {
        static final int MOST_PLANNED = 2 * MOST_COMMANDS;
        static final int SAVED = 1;
        static final int SENT = 2;

        final int[] actKind;
        final int[] actCommand;
        final int[] actPlace;
        final int[] stashPlace;
        final Cells patchBytes;
        int actCount;
        int bytes;
        int doneBits;
        int savedBits;
        int sentBits;
        int takenCells;
        int mostTaken;

        Plan() {
            actKind = new int[MOST_PLANNED];
            actCommand = new int[MOST_PLANNED];
            actPlace = new int[MOST_PLANNED];
            stashPlace = new int[MOST_COMMANDS];
            patchBytes = new Cells(TAPE_BYTES);
        }

        int fateOf(int k) {
            if (hasBit(savedBits, k)) {
                return SAVED;
            }
            return hasBit(sentBits, k) ? SENT : 0;
        }

        void build(Script script, int rule, int budget) {
            actCount = 0;
            bytes = 1;
            doneBits = 0;
            savedBits = 0;
            sentBits = 0;
            takenCells = 0;
            mostTaken = 0;
            int writers = script.writers();
            // each command is done once, and saved or sent once at most
            for (int round = 0; round < MOST_PLANNED && doneBits != writers; round++) {
                int ready = writers & ~doneBits & ~blockedBits(script);
                if (ready != 0) {
                    finish(script, lowestBit(ready));
                } else {
                    breakRing(script, rule, budget);
                }
            }
        }

        /** The copies that still read what is in their place in flash. */
        private int readers(Script script) {
            return script.movers() & ~doneBits & ~savedBits & ~sentBits;
        }

        private int blockedBits(Script script) {
            int readers = readers(script);
            int found = 0;
            for (int k = 0; k < script.size; k++) {
                found |= hasBit(readers, k) ? script.next[k] : 0;
            }
            return found;
        }

        private void finish(Script script, int k) {
            int fate = fateOf(k);
            doneBits |= 1 << k;
            if (fate == SAVED) {
                takenCells &= ~onesFrom(stashPlace[k], script.length[k]);
                append(UNSAVE, k, stashPlace[k], ACT_BYTES);
            } else if (fate == SENT || script.kind[k] == ADD) {
                append(SEND, k, NONE, SEND_BYTES + script.length[k]);
            } else {
                append(MOVE, k, NONE, ACT_BYTES);
            }
        }

        private void append(int itsKind, int itsCommand, int itsPlace, int itsBytes) {
            if (actCount < MOST_PLANNED) {
                actKind[actCount] = itsKind;
                actCommand[actCount] = itsCommand;
                actPlace[actCount] = itsPlace;
                actCount++;
                bytes += itsBytes;
            }
        }

        private void breakRing(Script script, int rule, int budget) {
            int ringed = script.rings.members(script.next, readers(script));
            int toSave = NONE;
            int toSend = NONE;
            for (int k = 0; k < script.size; k++) {
                if (!hasBit(ringed, k)) {
                    continue;
                }
                if (toSend == NONE || script.length[k] < script.length[toSend]) {
                    toSend = k;
                }
                boolean storable = freePlace(script.length[k], budget) != NONE;
                if (storable && (toSave == NONE || isPreferred(script, rule, k, toSave))) {
                    toSave = k;
                }
            }
            if (toSave != NONE) {
                saveCopy(script, toSave, budget);
            } else if (toSend != NONE) {
                sentBits |= 1 << toSend;
            }
        }

        /** Whether k goes ahead of a lower one by the rule. */
        private boolean isPreferred(Script script, int rule, int k, int lower) {
            if (rule == 0) {
                return script.length[k] < script.length[lower];
            }
            return rule == 1 && waiting(script, k) > waiting(script, lower);
        }

        private int waiting(Script script, int k) {
            return Integer.bitCount(script.next[k] & ~doneBits);
        }

        private int freePlace(int cells, int budget) {
            for (int at = 0; at + cells <= budget; at++) {
                if ((takenCells & onesFrom(at, cells)) == 0) {
                    return at;
                }
            }
            return NONE;
        }

        private void saveCopy(Script script, int k, int budget) {
            int at = freePlace(script.length[k], budget);
            if (at == NONE) {
                return;
            }
            stashPlace[k] = at;
            savedBits |= 1 << k;
            takenCells |= onesFrom(at, script.length[k]);
            mostTaken = Math.max(mostTaken, Integer.bitCount(takenCells));
            append(SAVE, k, at, ACT_BYTES);
        }

        void write(Script script, Cells wanted) {
            patchBytes.size = 0;
            patchBytes.push(wanted.size);
            for (int i = 0; i < actCount; i++) {
                writeAct(script, wanted, i);
            }
        }

        private void writeAct(Script script, Cells wanted, int i) {
            int k = actCommand[i];
            patchBytes.push(actKind[i]);
            switch (actKind[i]) {
                case SAVE:
                    pushThree(script.source[k], script.length[k], actPlace[i]);
                    break;
                case MOVE:
                    pushThree(script.place[k], script.source[k], script.length[k]);
                    break;
                case UNSAVE:
                    pushThree(script.place[k], actPlace[i], script.length[k]);
                    break;
                default:
                    patchBytes.push(script.place[k]);
                    patchBytes.push(script.length[k]);
                    for (int j = 0; j < script.length[k]; j++) {
                        patchBytes.push(wanted.at(script.place[k] + j));
                    }
                    break;
            }
        }

        private void pushThree(int a, int b, int c) {
            patchBytes.push(a);
            patchBytes.push(b);
            patchBytes.push(c);
        }
    }

    /** What the device is: all that can be undone. */
    private static final class Device {
        final int[] flash;
        final int[] stash;
        final int[] startFlash;
        final int[] startStash;
        final Cells patchBytes;
        final int[] journal;
        int journalBlock;
        int stepNumber;
        boolean stepKnown;
        boolean powered;

        Device() {
            flash = new int[FLASH_CELLS];
            stash = new int[STASH_CELLS];
            startFlash = new int[FLASH_CELLS];
            startStash = new int[STASH_CELLS];
            patchBytes = new Cells(TAPE_BYTES);
            journal = new int[BLOCK_CELLS];
            Arrays.fill(flash, ERASED);
            Arrays.fill(stash, ERASED);
            Arrays.fill(startFlash, ERASED);
            Arrays.fill(startStash, ERASED);
            journalBlock = NONE;
            stepKnown = true;
            powered = true;
            // a patch without acts still tells how many cells its image has
            patchBytes.push(0);
        }

        void copyFrom(Device other) {
            System.arraycopy(other.flash, 0, flash, 0, FLASH_CELLS);
            System.arraycopy(other.stash, 0, stash, 0, STASH_CELLS);
            System.arraycopy(other.startFlash, 0, startFlash, 0, FLASH_CELLS);
            System.arraycopy(other.startStash, 0, startStash, 0, STASH_CELLS);
            patchBytes.copyFirst(other.patchBytes, other.patchBytes.size);
            System.arraycopy(other.journal, 0, journal, 0, BLOCK_CELLS);
            journalBlock = other.journalBlock;
            stepNumber = other.stepNumber;
            stepKnown = other.stepKnown;
            powered = other.powered;
        }

        void burnCells(Cells cells) {
            for (int i = 0; i < FLASH_CELLS; i++) {
                flash[i] = i < cells.size ? cells.row[i] : ERASED;
            }
            Arrays.fill(stash, ERASED);
            patchBytes.size = 0;
            patchBytes.push(0);
            startHere();
        }

        void start(Cells bytes, int n) {
            patchBytes.copyFirst(bytes, n);
            startHere();
        }

        private void startHere() {
            System.arraycopy(flash, 0, startFlash, 0, FLASH_CELLS);
            System.arraycopy(stash, 0, startStash, 0, STASH_CELLS);
            standAt(0);
        }

        void standAt(int s) {
            journalBlock = NONE;
            stepNumber = s;
            stepKnown = true;
            powered = true;
        }

        void writeJournal(int block, int[] cells) {
            journalBlock = block;
            System.arraycopy(cells, 0, journal, 0, BLOCK_CELLS);
        }

        /** The block gets the first ones of the cells, the others are erased. */
        void writeBlock(int block, int[] cells, int first) {
            int from = block * BLOCK_CELLS;
            for (int i = 0; i < BLOCK_CELLS && from >= 0 && from + i < FLASH_CELLS; i++) {
                flash[from + i] = i < first ? cells[i] : ERASED;
            }
        }
    }

    /** The acts of a patch, as its bytes tell them, or its fault. */
    private static final class Reader {
        final int[] kind;
        // of a save a place in the stash, of others one in flash
        final int[] target;
        // of a send a place in the patch, of an unsave one in the stash, of others one in flash
        final int[] source;
        final int[] length;
        int actCount;
        int faultCode;
        int faultPlace;
        private int at;
        private int end;

        Reader() {
            kind = new int[MOST_ACTS];
            target = new int[MOST_ACTS];
            source = new int[MOST_ACTS];
            length = new int[MOST_ACTS];
            faultPlace = NONE;
        }

        void readActs(Cells bytes, int n) {
            actCount = 0;
            faultCode = 0;
            faultPlace = NONE;
            at = 0;
            end = Math.max(0, Math.min(n, bytes.size));
            readNumber(bytes, 0, IMAGE_CELLS);
            for (int i = 0; i <= MOST_ACTS && at < end && faultCode == 0; i++) {
                int code = bytes.at(at);
                if (code < SAVE || code > SEND) {
                    fail(FAULT_CODE, at);
                } else if (actCount >= MOST_ACTS) {
                    fail(FAULT_ACTS, at);
                } else {
                    at++;
                    readAct(bytes, code);
                }
            }
        }

        private void readAct(Cells bytes, int code) {
            int a = actCount;
            kind[a] = code;
            switch (code) {
                case SAVE:
                    source[a] = readNumber(bytes, 0, FLASH_CELLS - 1);
                    length[a] = readNumber(bytes, 1, Math.min(STASH_CELLS, FLASH_CELLS - source[a]));
                    target[a] = readNumber(bytes, 0, STASH_CELLS - length[a]);
                    break;
                case MOVE:
                    target[a] = readNumber(bytes, 0, FLASH_CELLS - 1);
                    source[a] = readNumber(bytes, 0, FLASH_CELLS - 1);
                    length[a] = readNumber(bytes, 1, FLASH_CELLS - Math.max(target[a], source[a]));
                    break;
                case UNSAVE:
                    target[a] = readNumber(bytes, 0, FLASH_CELLS - 1);
                    source[a] = readNumber(bytes, 0, STASH_CELLS - 1);
                    length[a] = readNumber(bytes, 1, Math.min(FLASH_CELLS - target[a], STASH_CELLS - source[a]));
                    break;
                default:
                    target[a] = readNumber(bytes, 0, FLASH_CELLS - 1);
                    length[a] = readNumber(bytes, 1, FLASH_CELLS - target[a]);
                    source[a] = at;
                    passCells(length[a]);
                    break;
            }
            if (faultCode == 0) {
                actCount++;
            }
        }

        /** The next byte; behind a fault 0, and nothing is read. */
        private int readNumber(Cells bytes, int lowest, int highest) {
            if (faultCode != 0) {
                return 0;
            }
            if (at >= end) {
                fail(FAULT_END, end);
                return 0;
            }
            int number = bytes.at(at);
            if (number < lowest || number > highest) {
                fail(FAULT_NUMBER, at);
                return 0;
            }
            at++;
            return number;
        }

        private void passCells(int cells) {
            if (faultCode == 0 && at + cells > end) {
                fail(FAULT_END, end);
            }
            at += cells;
        }

        private void fail(int code, int where) {
            faultCode = code;
            faultPlace = where;
        }

        /** The first cell of flash that an act reads and one ahead of it writes. */
        int firstOverwritten(int a) {
            if (kind[a] != SAVE && kind[a] != MOVE) {
                return NONE;
            }
            for (int cell = source[a]; cell < source[a] + length[a]; cell++) {
                for (int i = 0; i < a; i++) {
                    if (kind[i] != SAVE && cell >= target[i] && cell < target[i] + length[i]) {
                        return cell;
                    }
                }
            }
            return NONE;
        }
    }

    /** The steps of the patch that was taken, and what is due ahead of each. */
    private static final class Course {
        final Reader reader;
        final Cells patchBytes;
        final int[] stepAct;
        final int[] stepBlock;
        int stepCount;
        // ahead of each step, and behind all: the blocks that are due, packed, and the stash cells that are needed
        final int[] dueBlocks;
        final int[] needed;
        // ahead of each act, and behind all: only acts of one step write the stash
        final int[] dueStash;
        final Device walker;
        final int[] coming;
        final int[] seen;

        Course() {
            reader = new Reader();
            patchBytes = new Cells(TAPE_BYTES);
            stepAct = new int[MOST_STEPS];
            stepBlock = new int[MOST_STEPS];
            dueBlocks = new int[(MOST_STEPS + 1) * BLOCKS];
            needed = new int[MOST_STEPS + 1];
            dueStash = new int[(MOST_ACTS + 1) * STASH_CELLS];
            walker = new Device();
            coming = new int[BLOCK_CELLS];
            seen = new int[BLOCKS];
        }

        void build(Device device) {
            patchBytes.copyFirst(device.patchBytes, device.patchBytes.size);
            reader.readActs(patchBytes, patchBytes.size);
            listSteps();
            markNeeded();
            walkDue(device);
        }

        private void listSteps() {
            stepCount = 0;
            for (int a = 0; a < reader.actCount; a++) {
                if (reader.kind[a] == SAVE) {
                    append(a, NONE);
                } else {
                    listBlocks(a);
                }
            }
        }

        private void listBlocks(int a) {
            int first = reader.target[a] / BLOCK_CELLS;
            int last = (reader.target[a] + reader.length[a] - 1) / BLOCK_CELLS;
            boolean down = reader.kind[a] == MOVE && reader.target[a] > reader.source[a];
            for (int i = 0; i <= last - first; i++) {
                append(a, down ? last - i : first + i);
            }
        }

        private void append(int act, int block) {
            if (stepCount < MOST_STEPS) {
                stepAct[stepCount] = act;
                stepBlock[stepCount] = block;
                stepCount++;
            }
        }

        private void markNeeded() {
            needed[stepCount] = 0;
            for (int s = stepCount - 1; s >= 0; s--) {
                int act = stepAct[s];
                needed[s] = needed[s + 1];
                if (reader.kind[act] == SAVE) {
                    needed[s] &= ~onesFrom(reader.target[act], reader.length[act]);
                } else if (reader.kind[act] == UNSAVE) {
                    needed[s] |= bitsReadAt(s);
                }
            }
        }

        private int bitsReadAt(int s) {
            int act = stepAct[s];
            int from = Math.max(reader.target[act], stepBlock[s] * BLOCK_CELLS);
            int behind = Math.min(reader.target[act] + reader.length[act], (stepBlock[s] + 1) * BLOCK_CELLS);
            return onesFrom(reader.source[act] + from - reader.target[act], behind - from);
        }

        private void walkDue(Device device) {
            System.arraycopy(device.startFlash, 0, walker.flash, 0, FLASH_CELLS);
            System.arraycopy(device.startStash, 0, walker.stash, 0, STASH_CELLS);
            walker.standAt(0);
            noteDue(0);
            for (int s = 0; s < stepCount; s++) {
                doStep(walker);
                noteDue(s + 1);
            }
        }

        private void noteDue(int s) {
            for (int b = 0; b < BLOCKS; b++) {
                dueBlocks[s * BLOCKS + b] = packed(walker.flash, b * BLOCK_CELLS);
            }
            System.arraycopy(walker.stash, 0, dueStash, actAt(s) * STASH_CELLS, STASH_CELLS);
        }

        /** The act of a step; behind all steps the one behind all acts. */
        private int actAt(int s) {
            return s < stepCount ? stepAct[s] : reader.actCount;
        }

        int dueBlock(int s, int block) {
            return dueBlocks[s * BLOCKS + block];
        }

        /** Puts cells on paper as they are due ahead of a step. */
        void standAsDue(Device device, int s) {
            for (int i = 0; i < FLASH_CELLS; i++) {
                int shift = 8 * (BLOCK_CELLS - 1 - i % BLOCK_CELLS);
                device.flash[i] = dueBlock(s, i / BLOCK_CELLS) >>> shift & 255;
            }
            System.arraycopy(dueStash, actAt(s) * STASH_CELLS, device.stash, 0, STASH_CELLS);
            device.standAt(s);
        }

        boolean hasLeft(Device device) {
            return device.stepNumber >= 0 && device.stepNumber < stepCount;
        }

        void doStep(Device device) {
            if (!hasLeft(device)) {
                return;
            }
            int s = device.stepNumber;
            if (stepBlock[s] == NONE) {
                saveCells(device, stepAct[s], STASH_CELLS);
            } else {
                readComing(device, s);
                device.writeBlock(stepBlock[s], coming, BLOCK_CELLS);
            }
            device.stepNumber++;
        }

        void cutPower(Device device, int phase, int c) {
            device.powered = false;
            if (!hasLeft(device) || phase == 0) {
                return;
            }
            int s = device.stepNumber;
            if (stepBlock[s] == NONE) {
                saveCells(device, stepAct[s], phase == PHASES - 1 ? STASH_CELLS : c);
            } else if (phase > 1) {
                readComing(device, s);
                device.writeJournal(stepBlock[s], coming);
                device.writeBlock(stepBlock[s], coming, phase == PHASES - 1 ? BLOCK_CELLS : c);
            }
        }

        /** The first ones of an act's cells come into the stash. */
        private void saveCells(Device device, int act, int most) {
            int cells = Math.min(most, reader.length[act]);
            for (int i = 0; i < cells; i++) {
                device.stash[reader.target[act] + i] = device.flash[reader.source[act] + i];
            }
        }

        private void readComing(Device device, int s) {
            int act = stepAct[s];
            for (int c = 0; c < BLOCK_CELLS; c++) {
                int cell = stepBlock[s] * BLOCK_CELLS + c;
                int i = cell - reader.target[act];
                boolean written = i >= 0 && i < reader.length[act];
                coming[c] = written ? readCell(device, act, i) : device.flash[cell];
            }
        }

        private int readCell(Device device, int act, int i) {
            int from = reader.source[act] + i;
            switch (reader.kind[act]) {
                case MOVE:
                    return device.flash[from];
                case UNSAVE:
                    return device.stash[from];
                default:
                    return from < patchBytes.size ? patchBytes.row[from] : ERASED;
            }
        }

        boolean canBoot(Device device) {
            if (device.stepKnown) {
                return true;
            }
            look(device, true);
            return firstFit(device.stash) != NONE;
        }

        /** Boots a device that can boot. */
        void bootUp(Device device) {
            boolean journalled = device.journalBlock != NONE;
            if (journalled) {
                device.writeBlock(device.journalBlock, device.journal, BLOCK_CELLS);
            }
            if (!device.stepKnown) {
                look(device, false);
                device.stepNumber = Math.max(firstFit(device.stash), 0);
            } else if (journalled) {
                device.stepNumber++;
            }
            device.standAt(device.stepNumber);
        }

        /** Sees the blocks as they are, or as they would be behind the journal. */
        void look(Device device, boolean behindJournal) {
            for (int b = 0; b < BLOCKS; b++) {
                seen[b] = packed(device.flash, b * BLOCK_CELLS);
            }
            int block = device.journalBlock;
            if (behindJournal && block >= 0 && block < BLOCKS) {
                seen[block] = packed(device.journal, 0);
            }
        }

        int firstFit(int[] stash) {
            for (int s = 0; s <= stepCount; s++) {
                if (isFit(stash, s)) {
                    return s;
                }
            }
            return NONE;
        }

        int lastFit(int[] stash) {
            for (int s = stepCount; s >= 0; s--) {
                if (isFit(stash, s)) {
                    return s;
                }
            }
            return NONE;
        }

        int countFits(int[] stash) {
            int found = 0;
            for (int s = 0; s <= stepCount; s++) {
                if (isFit(stash, s)) {
                    found++;
                }
            }
            return found;
        }

        boolean isFit(int[] stash, int s) {
            return areBlocksDue(s) && isStashDue(stash, s);
        }

        boolean areBlocksDue(int s) {
            for (int b = 0; b < BLOCKS; b++) {
                if (seen[b] != dueBlock(s, b)) {
                    return false;
                }
            }
            return true;
        }

        private boolean isStashDue(int[] stash, int s) {
            int from = actAt(s) * STASH_CELLS;
            for (int i = 0; i < STASH_CELLS; i++) {
                if (hasBit(needed[s], i) && stash[i] != dueStash[from + i]) {
                    return false;
                }
            }
            return true;
        }
    }

    /** Cuts of power on paper. */
    private static final class Trials {
        static final int KINDS = 4;
        static final int ALL = 0;
        static final int FORGOTTEN = 2;
        static final int WITHOUT_JOURNAL = 3;

        final Device device;
        // NONE: not tried yet
        final int[] found;

        Trials() {
            device = new Device();
            found = new int[KINDS];
            Arrays.fill(found, NONE);
        }

        void clear() {
            Arrays.fill(found, NONE);
        }

        int survived(Course course, int what) {
            if (what == ALL) {
                return course.stepCount * PHASES;
            }
            if (found[what] != NONE) {
                return found[what];
            }
            int times = 0;
            for (int s = 0; s < course.stepCount; s++) {
                for (int phase = 0; phase < PHASES; phase++) {
                    course.standAsDue(device, s);
                    if (survives(course, phase, what) && endsAsDue(course)) {
                        times++;
                    }
                }
            }
            found[what] = times;
            return times;
        }

        int survivedTwice(Course course, int phase, int other) {
            int times = 0;
            for (int s = 0; s < course.stepCount; s++) {
                course.standAsDue(device, s);
                boolean up = survives(course, phase, ALL);
                if (up && course.hasLeft(device)) {
                    up = survives(course, other, ALL);
                }
                if (up && endsAsDue(course)) {
                    times++;
                }
            }
            return times;
        }

        /** Whether the device is on again behind a cut. */
        private boolean survives(Course course, int phase, int what) {
            course.cutPower(device, phase, PAPER_CELLS);
            if (what == FORGOTTEN) {
                device.stepKnown = false;
            }
            if (what == WITHOUT_JOURNAL) {
                device.journalBlock = NONE;
            }
            if (!course.canBoot(device)) {
                return false;
            }
            course.bootUp(device);
            return true;
        }

        private boolean endsAsDue(Course course) {
            course.look(device, false);
            // from what fits its step the steps that are left lead to what is due: no need to walk them
            if (course.isFit(device.stash, device.stepNumber)) {
                return true;
            }
            for (int i = 0; i < MOST_STEPS && course.hasLeft(device); i++) {
                course.doStep(device);
            }
            course.look(device, false);
            return course.areBlocksDue(course.stepCount);
        }
    }

    /** The device as it was ahead of the latest calls, in a ring of rows. */
    private static final class History {
        final Device[] devices;
        int eldest;
        int size;

        History() {
            devices = new Device[MOST_UNDONE];
            for (int i = 0; i < MOST_UNDONE; i++) {
                devices[i] = new Device();
            }
        }

        void clear() {
            size = 0;
        }

        void keep(Device device) {
            if (size == MOST_UNDONE) {
                eldest = (eldest + 1) % MOST_UNDONE;
                size--;
            }
            devices[(eldest + size) % MOST_UNDONE].copyFrom(device);
            size++;
        }

        void goBack(int n, Device device) {
            if (n < 1 || n > size) {
                return;
            }
            size -= n;
            device.copyFrom(devices[(eldest + size) % MOST_UNDONE]);
        }
    }
}
