import java.util.ArrayDeque;
import java.util.ArrayList;
import java.util.Arrays;
import java.util.Collections;
import java.util.HashSet;
import java.util.List;
import java.util.Set;
import java.util.TreeSet;

/**
 * The document told once more, word by word and as slowly as need be: lists and sets in place of bits,
 * everything reckoned anew at each call, nothing kept. The program is compared with it on many runs.
 */
final class Model {
    private static final int NONE = -1;

    record Command(int kind, int place, int from, int length) {
        boolean writes(int cell) {
            return cell >= place && cell < place + length;
        }
    }

    record Act(int kind, int command, int to, int from, int length, int place, List<Integer> cells) {
        int bytes() {
            return kind == 4 ? 3 + length : 4;
        }

        boolean writesFlash(int cell) {
            return kind != 1 && cell >= to && cell < to + length;
        }
    }

    record Step(int act, int block) {
    }

    /** A plan with all that is asked about it. */
    static final class Planned {
        final List<Act> acts = new ArrayList<>();
        final Set<Integer> saved = new TreeSet<>();
        final Set<Integer> sent = new TreeSet<>();
        int mostTaken = 0;

        int size() {
            int bytes = 1;
            for (Act act : acts) {
                bytes += act.bytes();
            }
            return bytes;
        }
    }

    static final class Device {
        int[] flash = filled(40);
        int[] stash = filled(20);
        int[] startFlash = filled(40);
        int[] startStash = filled(20);
        boolean power = true;
        List<Act> acts = List.of();
        int step = 0;
        boolean known = true;
        int journalBlock = NONE;
        int[] journal = new int[4];

        Device copy() {
            Device d = new Device();
            d.flash = flash.clone();
            d.stash = stash.clone();
            d.startFlash = startFlash.clone();
            d.startStash = startStash.clone();
            d.power = power;
            d.acts = acts;
            d.step = step;
            d.known = known;
            d.journalBlock = journalBlock;
            d.journal = journal.clone();
            return d;
        }

        private static int[] filled(int n) {
            int[] row = new int[n];
            Arrays.fill(row, 255);
            return row;
        }
    }

    record Image(List<Integer> old, List<Integer> fresh, int[] terms, Device device) {
    }

    private List<Integer> tape = new ArrayList<>();
    private List<Integer> old = List.of();
    private List<Integer> fresh = List.of();
    private int[] terms = {3, 0, 0, 8};
    private Device device = new Device();
    private final ArrayDeque<Device> undo = new ArrayDeque<>();
    private final Image[] images = new Image[2];
    private int fault = 0;
    private int faultPlace = NONE;

    // ---- images, terms

    int feed(int a, int b, int c, int d, int e) {
        if (tape.size() + 20 > 160) {
            return -5;
        }
        for (int word : new int[] {a, b, c, d, e}) {
            for (byte one : java.nio.ByteBuffer.allocate(4).putInt(word).array()) {
                tape.add(one & 255);
            }
        }
        return tape.size();
    }

    int old(int n) {
        if (n < 0 || n > 40 || n > tape.size()) {
            return -3;
        }
        old = List.copyOf(tape.subList(0, n));
        tape = new ArrayList<>();
        return n;
    }

    int fresh(int n) {
        if (n < 0 || n > 40 || n > tape.size()) {
            return -3;
        }
        fresh = List.copyOf(tape.subList(0, n));
        tape = new ArrayList<>();
        return n;
    }

    int cell(int what, int i) {
        if (what < 0 || what > 3) {
            return -2;
        }
        List<Integer> row = what == 0 ? old : what == 1 ? fresh : asList(what == 2 ? device.flash : device.stash);
        return i >= 0 && i < row.size() ? row.get(i) : NONE;
    }

    int terms(int what, int v) {
        if (what < 0 || what > 3) {
            return -2;
        }
        int lowest = what == 0 ? 3 : 0;
        int highest = what == 0 ? 8 : what == 3 ? 20 : 2;
        if (v < lowest || v > highest) {
            return -3;
        }
        int was = terms[what];
        terms[what] = v;
        return was;
    }

    // ---- suffixes, runs

    private List<List<Integer>> sortedSuffixes() {
        List<List<Integer>> all = new ArrayList<>();
        for (int i = 0; i < old.size(); i++) {
            all.add(old.subList(i, old.size()));
        }
        all.sort((p, q) -> {
            int n = common(p, q);
            if (n == p.size() || n == q.size()) {
                return Integer.compare(p.size(), q.size());
            }
            return Integer.compare(p.get(n), q.get(n));
        });
        return all;
    }

    private static int common(List<Integer> p, List<Integer> q) {
        int n = 0;
        while (n < p.size() && n < q.size() && p.get(n).equals(q.get(n))) {
            n++;
        }
        return n;
    }

    int suffix(int i) {
        return i >= 0 && i < old.size() ? old.size() - sortedSuffixes().get(i).size() : NONE;
    }

    int shared(int i) {
        if (i < 0 || i > old.size() - 2) {
            return NONE;
        }
        return common(sortedSuffixes().get(i), sortedSuffixes().get(i + 1));
    }

    int unlike(int n) {
        if (n < 1 || n > 40) {
            return -3;
        }
        Set<List<Integer>> rows = new HashSet<>();
        for (int i = 0; i + n <= old.size(); i++) {
            rows.add(old.subList(i, i + n));
        }
        return rows.size();
    }

    private static int longest(List<Integer> text, List<Integer> wanted, int j) {
        int most = 0;
        for (int f = 0; f < text.size(); f++) {
            most = Math.max(most, common(text.subList(f, text.size()), wanted.subList(j, wanted.size())));
        }
        return most;
    }

    private static List<Integer> places(List<Integer> text, List<Integer> wanted, int j) {
        List<Integer> found = new ArrayList<>();
        int most = longest(text, wanted, j);
        for (int f = 0; f < text.size() && most > 0; f++) {
            if (common(text.subList(f, text.size()), wanted.subList(j, wanted.size())) == most) {
                found.add(f);
            }
        }
        return found;
    }

    private static int chosen(List<Integer> text, List<Integer> wanted, int j, int choice) {
        List<Integer> found = places(text, wanted, j);
        if (found.isEmpty()) {
            return NONE;
        }
        if (choice == 0) {
            return found.get(0);
        }
        if (choice == 1) {
            return found.get(found.size() - 1);
        }
        for (int away = 0; ; away++) {
            if (found.contains(j - away)) {
                return j - away;
            }
            if (found.contains(j + away)) {
                return j + away;
            }
        }
    }

    int run(int j, int what) {
        if (j < 0 || j >= fresh.size() || what < 0 || what > 2) {
            return -2;
        }
        if (what == 0) {
            return longest(old, fresh, j);
        }
        return what == 1 ? chosen(old, fresh, j, terms[1]) : places(old, fresh, j).size();
    }

    int widest(int what) {
        if (what < 0 || what > 2) {
            return -2;
        }
        int best = NONE;
        for (int j = fresh.size() - 1; j >= 0; j--) {
            if (best == NONE || longest(old, fresh, j) >= longest(old, fresh, best)) {
                best = j;
            }
        }
        int most = best == NONE ? 0 : longest(old, fresh, best);
        if (what == 0) {
            return most;
        }
        if (most == 0) {
            return NONE;
        }
        return what == 1 ? best : chosen(old, fresh, best, terms[1]);
    }

    int least() {
        // behind[j]: the fewest bytes for the cells from j on
        int[] behind = new int[fresh.size() + 1];
        int[] behindAdd = new int[fresh.size() + 1];
        for (int j = fresh.size() - 1; j >= 0; j--) {
            int copying = Integer.MAX_VALUE / 2;
            for (int f = 0; f < old.size(); f++) {
                int n = common(old.subList(f, old.size()), fresh.subList(j, fresh.size()));
                for (int cells = terms[0]; cells <= n; cells++) {
                    copying = Math.min(copying, (f == j ? 0 : 4) + behind[j + cells]);
                }
            }
            int adding = Integer.MAX_VALUE / 2;
            for (int cells = 1; j + cells <= fresh.size(); cells++) {
                adding = Math.min(adding, 3 + cells + behindAdd[j + cells]);
            }
            behindAdd[j] = copying;
            behind[j] = Math.min(copying, adding);
        }
        return 1 + behind[0];
    }

    // ---- commands

    private static List<Command> script(List<Integer> text, List<Integer> wanted, int least, int choice) {
        List<Command> made = new ArrayList<>();
        int j = 0;
        while (j < wanted.size()) {
            int n = longest(text, wanted, j);
            if (n >= least) {
                int f = chosen(text, wanted, j, choice);
                made.add(new Command(f == j ? 2 : 1, j, f, n));
                j += n;
                continue;
            }
            int from = j;
            while (j < wanted.size() && longest(text, wanted, j) < least) {
                j++;
            }
            made.add(new Command(0, from, NONE, j - from));
        }
        return made;
    }

    private List<Command> script() {
        return script(old, fresh, terms[0], terms[1]);
    }

    private static boolean must(List<Command> script, int a, int b) {
        if (a == b || script.get(a).kind != 1 || script.get(b).kind == 2) {
            return false;
        }
        Command reader = script.get(a);
        for (int cell = reader.from; cell < reader.from + reader.length; cell++) {
            if (script.get(b).writes(cell)) {
                return true;
            }
        }
        return false;
    }

    int commands() {
        return script().size();
    }

    int command(int k, int what) {
        List<Command> script = script();
        if (k < 0 || k >= script.size() || what < 0 || what > 4) {
            return -2;
        }
        Command c = script.get(k);
        Planned plan = plan();
        int fate = plan.saved.contains(k) ? 1 : plan.sent.contains(k) ? 2 : 0;
        return new int[] {c.kind, c.place, c.from, c.length, fate}[what];
    }

    int ahead(int a, int b) {
        int n = commands();
        if (a < 0 || b < 0 || a >= n || b >= n || a == b) {
            return -2;
        }
        return must(script(), a, b) ? 1 : 0;
    }

    /** Whether k comes back to k through the commands of a set. */
    private static boolean inRing(List<Command> script, Set<Integer> of, int k) {
        Set<Integer> seen = new HashSet<>();
        ArrayDeque<Integer> open = new ArrayDeque<>();
        if (!of.contains(k)) {
            return false;
        }
        open.add(k);
        while (!open.isEmpty()) {
            int at = open.remove();
            for (int next : of) {
                if (must(script, at, next)) {
                    if (next == k) {
                        return true;
                    }
                    if (seen.add(next)) {
                        open.add(next);
                    }
                }
            }
        }
        return false;
    }

    private static Set<Integer> copies(List<Command> script) {
        Set<Integer> found = new TreeSet<>();
        for (int k = 0; k < script.size(); k++) {
            if (script.get(k).kind == 1) {
                found.add(k);
            }
        }
        return found;
    }

    int ringed() {
        List<Command> script = script();
        int bits = 0;
        for (int k : copies(script)) {
            if (inRing(script, copies(script), k)) {
                bits |= 1 << k;
            }
        }
        return bits;
    }

    int ring(int k, int i) {
        List<Command> script = script();
        if (k < 0 || k >= script.size()) {
            return -2;
        }
        if (i < NONE) {
            return -3;
        }
        if (!inRing(script, copies(script), k)) {
            return NONE;
        }
        for (int length = 2; ; length++) {
            List<Integer> row = new ArrayList<>(List.of(k));
            if (closes(script, row, length)) {
                return i == NONE ? length : i < length ? row.get(i) : NONE;
            }
        }
    }

    /** Lengthens a row to a ring of a length, the least one first. */
    private static boolean closes(List<Command> script, List<Integer> row, int length) {
        int last = row.get(row.size() - 1);
        if (row.size() == length) {
            return must(script, last, row.get(0));
        }
        for (int next : copies(script)) {
            if (!row.contains(next) && must(script, last, next)) {
                row.add(next);
                if (closes(script, row, length)) {
                    return true;
                }
                row.remove(row.size() - 1);
            }
        }
        return false;
    }

    int fewest(int what) {
        if (what < 0 || what > 3) {
            return -2;
        }
        List<Command> script = script();
        List<Integer> copies = new ArrayList<>(copies(script));
        int best = Integer.MAX_VALUE;
        int bestBits = 0;
        for (int set = 0; set < 1 << copies.size(); set++) {
            Set<Integer> left = new TreeSet<>();
            int weight = 0;
            int bits = 0;
            for (int i = 0; i < copies.size(); i++) {
                if ((set >> i & 1) == 0) {
                    left.add(copies.get(i));
                } else {
                    weight += what < 2 ? 1 : script.get(copies.get(i)).length;
                    bits |= 1 << copies.get(i);
                }
            }
            if (weight < best && left.stream().noneMatch(k -> inRing(script, left, k))) {
                best = weight;
                bestBits = bits;
            }
        }
        return what % 2 == 0 ? best : bestBits;
    }

    // ---- the plan

    private static Planned plan(List<Command> script, List<Integer> wanted, int rule, int budget) {
        Planned p = new Planned();
        Set<Integer> done = new TreeSet<>();
        int[] owner = new int[20];
        Arrays.fill(owner, NONE);
        Set<Integer> all = new TreeSet<>();
        for (int k = 0; k < script.size(); k++) {
            if (script.get(k).kind != 2) {
                all.add(k);
            }
        }
        while (!done.containsAll(all)) {
            int ready = NONE;
            for (int k : all) {
                boolean free = !done.contains(k);
                for (int other : all) {
                    boolean waits = !done.contains(other) && !p.saved.contains(other) && !p.sent.contains(other);
                    free &= !(waits && must(script, other, k));
                }
                if (free && ready == NONE) {
                    ready = k;
                }
            }
            if (ready != NONE) {
                done.add(ready);
                doCommand(p, script.get(ready), ready, wanted, owner);
                continue;
            }
            Set<Integer> plain = copies(script);
            plain.removeAll(done);
            plain.removeAll(p.saved);
            plain.removeAll(p.sent);
            breakRing(p, script, plain, done, owner, rule, budget);
        }
        return p;
    }

    private static void doCommand(Planned p, Command c, int k, List<Integer> wanted, int[] owner) {
        if (p.saved.contains(k)) {
            int place = NONE;
            for (int i = 19; i >= 0; i--) {
                if (owner[i] == k) {
                    place = i;
                    owner[i] = NONE;
                }
            }
            p.acts.add(new Act(3, k, c.place, NONE, c.length, place, null));
        } else if (c.kind == 0 || p.sent.contains(k)) {
            p.acts.add(new Act(4, k, c.place, NONE, c.length, NONE, wanted.subList(c.place, c.place + c.length)));
        } else {
            p.acts.add(new Act(2, k, c.place, c.from, c.length, NONE, null));
        }
    }

    private static void breakRing(Planned p, List<Command> script, Set<Integer> plain, Set<Integer> done,
            int[] owner, int rule, int budget) {
        List<Integer> ringed = new ArrayList<>();
        List<Integer> storable = new ArrayList<>();
        for (int k : plain) {
            if (inRing(script, plain, k)) {
                ringed.add(k);
                if (freePlace(owner, script.get(k).length, budget) != NONE) {
                    storable.add(k);
                }
            }
        }
        if (storable.isEmpty()) {
            p.sent.add(Collections.min(ringed,
                    (a, b) -> a.equals(b) ? 0 : script.get(a).length != script.get(b).length
                            ? script.get(a).length - script.get(b).length : a - b));
            return;
        }
        int best = storable.get(0);
        for (int k : storable) {
            if (rule == 0 && script.get(k).length < script.get(best).length
                    || rule == 1 && waiting(script, done, k) > waiting(script, done, best)) {
                best = k;
            }
        }
        Command c = script.get(best);
        int place = freePlace(owner, c.length, budget);
        for (int i = 0; i < c.length; i++) {
            owner[place + i] = best;
        }
        p.saved.add(best);
        p.acts.add(new Act(1, best, NONE, c.from, c.length, place, null));
        int taken = 0;
        for (int o : owner) {
            taken += o == NONE ? 0 : 1;
        }
        p.mostTaken = Math.max(p.mostTaken, taken);
    }

    private static int waiting(List<Command> script, Set<Integer> done, int k) {
        int found = 0;
        for (int b = 0; b < script.size(); b++) {
            found += !done.contains(b) && must(script, k, b) ? 1 : 0;
        }
        return found;
    }

    private static int freePlace(int[] owner, int length, int budget) {
        for (int at = 0; at + length <= budget; at++) {
            boolean free = true;
            for (int i = 0; i < length; i++) {
                free &= owner[at + i] == NONE;
            }
            if (free) {
                return at;
            }
        }
        return NONE;
    }

    private Planned plan() {
        return plan(script(), fresh, terms[2], terms[3]);
    }

    int acts() {
        return plan().acts.size();
    }

    int act(int i, int what) {
        List<Act> acts = plan().acts;
        if (i < 0 || i >= acts.size() || what < 0 || what > 2) {
            return -2;
        }
        Act a = acts.get(i);
        return what == 0 ? a.kind : what == 1 ? a.command : a.place;
    }

    int plan(int what) {
        if (what < 0 || what > 3) {
            return -2;
        }
        Planned p = plan();
        return new int[] {p.saved.size(), p.sent.size(), p.mostTaken, p.size()}[what];
    }

    private List<Integer> patch() {
        List<Integer> bytes = new ArrayList<>(List.of(fresh.size()));
        for (Act a : plan().acts) {
            bytes.add(a.kind);
            switch (a.kind) {
                case 1 -> bytes.addAll(List.of(a.from, a.length, a.place));
                case 2 -> bytes.addAll(List.of(a.to, a.from, a.length));
                case 3 -> bytes.addAll(List.of(a.to, a.place, a.length));
                default -> {
                    bytes.addAll(List.of(a.to, a.length));
                    bytes.addAll(a.cells);
                }
            }
        }
        return bytes;
    }

    int patch(int i) {
        List<Integer> bytes = patch();
        return i >= 0 && i < bytes.size() ? bytes.get(i) : NONE;
    }

    int needs() {
        for (int budget = 0; budget <= 20; budget++) {
            if (plan(script(), fresh, terms[2], budget).sent.isEmpty()) {
                return budget;
            }
        }
        return NONE;
    }

    int sized(int budget) {
        return budget < 0 || budget > 20 ? -3 : plan(script(), fresh, terms[2], budget).size();
    }

    int turned() {
        return plan(script(fresh, old, terms[0], terms[1]), old, terms[2], terms[3]).size();
    }

    int best(int what) {
        if (what < 0 || what > 1) {
            return -2;
        }
        int[] size = new int[3];
        for (int i = 0; i < 3; i++) {
            size[i] = what == 0 ? plan(script(), fresh, i, terms[3]).size()
                    : plan(script(old, fresh, terms[0], i), fresh, terms[2], terms[3]).size();
        }
        int least = Math.min(size[0], Math.min(size[1], size[2]));
        return size[0] == least ? 0 : size[1] == least ? 1 : 2;
    }

    int share(int what) {
        if (what < 0 || what > 2) {
            return -2;
        }
        int[] cells = new int[3];
        for (int k = 0; k < commands(); k++) {
            int kind = command(k, 0);
            cells[kind == 2 ? 0 : kind == 1 && command(k, 4) != 2 ? 1 : 2] += command(k, 3);
        }
        return fresh.isEmpty() ? 0 : Float.floatToIntBits((float) cells[what] / (float) fresh.size());
    }

    // ---- the device

    private void remember() {
        undo.addLast(device.copy());
        if (undo.size() > 10) {
            undo.removeFirst();
        }
    }

    int burn() {
        remember();
        device = new Device();
        for (int i = 0; i < old.size(); i++) {
            device.flash[i] = old.get(i);
        }
        device.startFlash = device.flash.clone();
        return 0;
    }

    private int takeActs(List<Act> acts) {
        remember();
        device.acts = acts;
        device.startFlash = device.flash.clone();
        device.startStash = device.stash.clone();
        device.step = 0;
        device.known = true;
        device.journalBlock = NONE;
        return steps();
    }

    int take() {
        return device.power ? takeActs(plan().acts) : -5;
    }

    int load(int n) {
        if (n < 0 || n > tape.size()) {
            return -3;
        }
        if (!device.power) {
            return -5;
        }
        List<Integer> bytes = List.copyOf(tape.subList(0, n));
        tape = new ArrayList<>();
        List<Act> acts = new ArrayList<>();
        fault = 0;
        faultPlace = NONE;
        readPatch(bytes, acts);
        return fault == 0 ? takeActs(acts) : -30 - fault;
    }

    private boolean bad(int code, int place) {
        fault = code;
        faultPlace = place;
        return false;
    }

    private boolean readPatch(List<Integer> bytes, List<Act> acts) {
        int n = bytes.size();
        if (n == 0) {
            return bad(2, 0);
        }
        if (bytes.get(0) > 40) {
            return bad(3, 0);
        }
        int at = 1;
        while (at < n) {
            int code = bytes.get(at);
            if (code < 1 || code > 4) {
                return bad(1, at);
            }
            if (acts.size() == 36) {
                return bad(4, at);
            }
            int first = at + 1 < n ? bytes.get(at + 1) : NONE;
            int second = at + 2 < n ? bytes.get(at + 2) : NONE;
            int third = at + 3 < n ? bytes.get(at + 3) : NONE;
            if (first == NONE) {
                return bad(2, n);
            }
            if (first > 39) {
                return bad(3, at + 1);
            }
            if (second == NONE) {
                return bad(2, n);
            }
            boolean secondBad = switch (code) {
                case 1 -> second == 0 || second > 20 || first + second > 40;
                case 2 -> second > 39;
                case 3 -> second > 19;
                default -> second == 0 || first + second > 40;
            };
            if (secondBad) {
                return bad(3, at + 2);
            }
            if (code == 4) {
                if (at + 3 + second > n) {
                    return bad(2, n);
                }
                acts.add(new Act(4, NONE, first, NONE, second, NONE, bytes.subList(at + 3, at + 3 + second)));
                at += 3 + second;
                continue;
            }
            if (third == NONE) {
                return bad(2, n);
            }
            boolean thirdBad = switch (code) {
                case 1 -> third > 19 || third + second > 20;
                case 2 -> third == 0 || first + third > 40 || second + third > 40;
                default -> third == 0 || first + third > 40 || second + third > 20;
            };
            if (thirdBad) {
                return bad(3, at + 3);
            }
            acts.add(switch (code) {
                case 1 -> new Act(1, NONE, NONE, first, second, third, null);
                case 2 -> new Act(2, NONE, first, second, third, NONE, null);
                default -> new Act(3, NONE, first, NONE, third, second, null);
            });
            at += 4;
        }
        return true;
    }

    int fault(int what) {
        return what == 0 ? fault : what == 1 ? faultPlace : NONE;
    }

    private static List<Step> listSteps(Device d) {
        List<Step> made = new ArrayList<>();
        for (int a = 0; a < d.acts.size(); a++) {
            Act act = d.acts.get(a);
            if (act.kind == 1) {
                made.add(new Step(a, NONE));
                continue;
            }
            List<Integer> blocks = new ArrayList<>();
            for (int b = 0; b < 10; b++) {
                boolean touched = false;
                for (int cell = 4 * b; cell < 4 * b + 4; cell++) {
                    touched |= act.writesFlash(cell);
                }
                if (touched) {
                    blocks.add(b);
                }
            }
            if (act.kind == 2 && act.to > act.from) {
                Collections.reverse(blocks);
            }
            for (int b : blocks) {
                made.add(new Step(a, b));
            }
        }
        return made;
    }

    int steps() {
        return listSteps(device).size();
    }

    /** The new cells of the block of a step. */
    private static int[] coming(Device d, Step step) {
        Act act = d.acts.get(step.act);
        int[] cells = new int[4];
        for (int i = 0; i < 4; i++) {
            int cell = 4 * step.block + i;
            int along = cell - act.to;
            cells[i] = !act.writesFlash(cell) ? d.flash[cell]
                    : act.kind == 2 ? d.flash[act.from + along]
                    : act.kind == 3 ? d.stash[act.place + along] : act.cells.get(along);
        }
        return cells;
    }

    private static void save(Device d, Act act, int cells) {
        for (int i = 0; i < Math.min(cells, act.length); i++) {
            d.stash[act.place + i] = d.flash[act.from + i];
        }
    }

    private static void doStep(Device d, List<Step> steps) {
        Step step = steps.get(d.step);
        if (step.block == NONE) {
            save(d, d.acts.get(step.act), 20);
        } else {
            System.arraycopy(coming(d, step), 0, d.flash, 4 * step.block, 4);
        }
        d.step++;
    }

    private static void cutPower(Device d, List<Step> steps, int phase, int c) {
        Step step = steps.get(d.step);
        d.power = false;
        if (step.block == NONE) {
            save(d, d.acts.get(step.act), phase == 0 ? 0 : phase == 3 ? 20 : c);
        } else if (phase >= 2) {
            d.journal = coming(d, step);
            d.journalBlock = step.block;
            for (int i = 0; i < 4; i++) {
                d.flash[4 * step.block + i] = phase == 3 || i < c ? d.journal[i] : 255;
            }
        }
    }

    /** From start on to a step, without a cut. */
    private static Device dueAt(Device d, List<Step> steps, int s) {
        Device walker = d.copy();
        walker.flash = d.startFlash.clone();
        walker.stash = d.startStash.clone();
        walker.step = 0;
        walker.known = true;
        walker.power = true;
        walker.journalBlock = NONE;
        for (int i = 0; i < s; i++) {
            doStep(walker, steps);
        }
        return walker;
    }

    private static long digest(int[] cells, int block) {
        long word = 0;
        for (int i = 0; i < 4; i++) {
            word = word * 256 + cells[4 * block + i];
        }
        return (word * 1664525 + 1013904223) % 4294967296L;
    }

    private static boolean isNeeded(Device d, List<Step> steps, int s, int cell) {
        for (int t = s; t < steps.size(); t++) {
            Act act = d.acts.get(steps.get(t).act);
            int block = steps.get(t).block;
            if (act.kind == 1 && cell >= act.place && cell < act.place + act.length) {
                return false;
            }
            if (act.kind == 3) {
                for (int to = 4 * block; to < 4 * block + 4; to++) {
                    if (act.writesFlash(to) && act.place + to - act.to == cell) {
                        return true;
                    }
                }
            }
        }
        return false;
    }

    private static boolean isFit(Device d, List<Step> steps, int s, Device due) {
        for (int b = 0; b < 10; b++) {
            if (digest(d.flash, b) != digest(due.flash, b)) {
                return false;
            }
        }
        for (int cell = 0; cell < 20; cell++) {
            if (d.stash[cell] != due.stash[cell] && isNeeded(d, steps, s, cell)) {
                return false;
            }
        }
        return true;
    }

    private static List<Integer> fitting(Device d, List<Step> steps) {
        List<Integer> found = new ArrayList<>();
        Device due = dueAt(d, steps, 0);
        for (int s = 0; s <= steps.size(); s++) {
            if (isFit(d, steps, s, due)) {
                found.add(s);
            }
            if (s < steps.size()) {
                doStep(due, steps);
            }
        }
        return found;
    }

    /** The device behind booting; null if it can't. */
    private static Device booted(Device d, List<Step> steps) {
        Device b = d.copy();
        if (b.journalBlock != NONE) {
            System.arraycopy(b.journal, 0, b.flash, 4 * b.journalBlock, 4);
            b.step += b.known ? 1 : 0;
            b.journalBlock = NONE;
        }
        if (!b.known) {
            List<Integer> fits = fitting(b, steps);
            if (fits.isEmpty()) {
                return null;
            }
            b.step = fits.get(0);
            b.known = true;
        }
        b.power = true;
        return b;
    }

    int step(int s, int what) {
        List<Step> steps = listSteps(device);
        if (s < 0 || s >= steps.size() || what < 0 || what > 2) {
            return -2;
        }
        Step step = steps.get(s);
        if (what == 0) {
            return step.act;
        }
        if (what == 1 || step.block == NONE) {
            return step.block;
        }
        return due(s, step.block) == due(s + 1, step.block) ? 0 : 1;
    }

    int go(int n) {
        if (n < 1 || n > 400) {
            return -3;
        }
        if (!device.power) {
            return -5;
        }
        List<Step> steps = listSteps(device);
        int done = Math.min(n, steps.size() - device.step);
        if (done > 0) {
            remember();
        }
        for (int i = 0; i < done; i++) {
            doStep(device, steps);
        }
        return done;
    }

    int cut(int phase, int c) {
        if (phase < 0 || phase > 3 || c < 0 || c > 3) {
            return -3;
        }
        List<Step> steps = listSteps(device);
        if (!device.power || device.step == steps.size()) {
            return -5;
        }
        remember();
        cutPower(device, steps, phase, c);
        return device.step;
    }

    int forget() {
        if (device.power || !device.known) {
            return -5;
        }
        remember();
        device.known = false;
        return 0;
    }

    int boot() {
        Device b = device.power ? null : booted(device, listSteps(device));
        if (b == null) {
            return -5;
        }
        remember();
        device = b;
        return device.step;
    }

    int spoil(int cell, int v) {
        if (cell < 0 || cell > 39) {
            return -2;
        }
        if (v < 0 || v > 255) {
            return -3;
        }
        remember();
        int was = device.flash[cell];
        device.flash[cell] = v;
        return was;
    }

    int undo(int n) {
        if (n < 1 || n > 10 || n > undo.size()) {
            return -3;
        }
        for (int i = 0; i < n; i++) {
            device = undo.removeLast();
        }
        return undo.size();
    }

    long digest(int block) {
        return block < 0 || block > 9 ? -2 : digest(device.flash, block);
    }

    long due(int s, int block) {
        List<Step> steps = listSteps(device);
        if (s < 0 || s > steps.size() || block < 0 || block > 9) {
            return -2;
        }
        return digest(dueAt(device, steps, s).flash, block);
    }

    int fits(int what) {
        if (what < 0 || what > 2) {
            return -2;
        }
        List<Integer> fits = fitting(device, listSteps(device));
        if (what == 2) {
            return fits.size();
        }
        return fits.isEmpty() ? NONE : fits.get(what == 0 ? 0 : fits.size() - 1);
    }

    int right() {
        int found = 0;
        for (int i = 0; i < fresh.size(); i++) {
            found += fresh.get(i) == device.flash[i] ? 1 : 0;
        }
        return found;
    }

    // ---- on paper

    int hazard(int what) {
        if (what < 0 || what > 1) {
            return -2;
        }
        Set<Integer> written = new HashSet<>();
        for (int a = 0; a < device.acts.size(); a++) {
            Act act = device.acts.get(a);
            for (int i = 0; i < act.length && act.kind <= 2; i++) {
                if (written.contains(act.from + i)) {
                    return what == 0 ? a : act.from + i;
                }
            }
            for (int i = 0; i < act.length && act.kind >= 2; i++) {
                written.add(act.to + i);
            }
        }
        return NONE;
    }

    int wear(int block) {
        if (block < 0 || block > 9) {
            return -2;
        }
        return (int) listSteps(device).stream().filter(s -> s.block == block).count();
    }

    int cuts(int what) {
        if (what < 0 || what > 3) {
            return -2;
        }
        List<Step> steps = listSteps(device);
        if (what == 0) {
            return 4 * steps.size();
        }
        int[] end = dueAt(device, steps, steps.size()).flash;
        int found = 0;
        for (int s = 0; s < steps.size(); s++) {
            for (int phase = 0; phase < 4; phase++) {
                Device d = dueAt(device, steps, s);
                cutPower(d, steps, phase, 2);
                if (what == 2) {
                    d.known = false;
                }
                if (what == 3) {
                    d.journalBlock = NONE;
                }
                d = booted(d, steps);
                found += d != null && Arrays.equals(finished(d, steps), end) ? 1 : 0;
            }
        }
        return found;
    }

    private static int[] finished(Device d, List<Step> steps) {
        while (d.step < steps.size()) {
            doStep(d, steps);
        }
        return d.flash;
    }

    int twice(int phase, int other) {
        if (phase < 0 || phase > 3 || other < 0 || other > 3) {
            return -3;
        }
        List<Step> steps = listSteps(device);
        int[] end = dueAt(device, steps, steps.size()).flash;
        int found = 0;
        for (int s = 0; s < steps.size(); s++) {
            Device d = dueAt(device, steps, s);
            cutPower(d, steps, phase, 2);
            d = booted(d, steps);
            if (d.step < steps.size()) {
                cutPower(d, steps, other, 2);
                d = booted(d, steps);
            }
            found += Arrays.equals(finished(d, steps), end) ? 1 : 0;
        }
        return found;
    }

    int odds(int what, int part) {
        if (what < 1 || what > 3 || part < 0 || part > 1) {
            return -2;
        }
        int above = cuts(what);
        int below = cuts(0);
        if (below == 0) {
            return NONE;
        }
        for (int by = below; by > 1; by--) {
            if (above % by == 0 && below % by == 0) {
                above /= by;
                below /= by;
            }
        }
        return part == 0 ? above : below;
    }

    // ---- images

    int image(int i) {
        if (i < 0 || i > 1) {
            return -2;
        }
        images[i] = new Image(old, fresh, terms.clone(), device.copy());
        return 0;
    }

    int restore(int i) {
        if (i < 0 || i > 1) {
            return -2;
        }
        if (images[i] == null) {
            return -5;
        }
        old = images[i].old;
        fresh = images[i].fresh;
        terms = images[i].terms.clone();
        device = images[i].device.copy();
        undo.clear();
        return 0;
    }

    int count(int what) {
        return switch (what) {
            case 0 -> old.size();
            case 1 -> fresh.size();
            case 2, 3, 4, 5 -> terms[what - 2];
            case 6 -> device.acts.size();
            case 7 -> device.known ? device.step : NONE;
            case 8 -> device.power ? 1 : 0;
            case 9 -> device.journalBlock;
            case 10 -> undo.size();
            case 11 -> tape.size();
            default -> NONE;
        };
    }

    private static List<Integer> asList(int[] row) {
        List<Integer> list = new ArrayList<>();
        for (int v : row) {
            list.add(v);
        }
        return list;
    }
}
