import java.util.Arrays;

/** Calls that tests make again and again, and all that can be seen of an object. */
final class Calls {
    private Calls() {
    }

    /** Puts bytes on the tape, zeros behind the last of them up to twenty. */
    static int feed(PlaceMender x, int... bytes) {
        int answer = 0;
        for (int at = 0; at < bytes.length; at += 20) {
            int[] words = new int[5];
            for (int i = 0; i < 20; i++) {
                words[i / 4] = words[i / 4] << 8 | (at + i < bytes.length ? bytes[at + i] : 0);
            }
            answer = x.feed(words[0], words[1], words[2], words[3], words[4]);
        }
        return answer;
    }

    static void setOld(PlaceMender x, int... cells) {
        feed(x, cells);
        x.old(cells.length);
    }

    static void setNew(PlaceMender x, int... cells) {
        feed(x, cells);
        x.fresh(cells.length);
    }

    static void set(PlaceMender x, String old, String fresh) {
        setOld(x, cells(old));
        setNew(x, cells(fresh));
    }

    static PlaceMender with(String old, String fresh) {
        PlaceMender x = new PlaceMender();
        set(x, old, fresh);
        return x;
    }

    static PlaceMender with(int[] old, int[] fresh) {
        PlaceMender x = new PlaceMender();
        setOld(x, old);
        setNew(x, fresh);
        return x;
    }

    /** An object whose flash has the cells of a text, 255 behind them. */
    static PlaceMender burnt(String text) {
        PlaceMender x = new PlaceMender();
        burn(x, text);
        return x;
    }

    static void burn(PlaceMender x, String text) {
        setOld(x, cells(text));
        x.burn();
    }

    static int load(PlaceMender x, int... bytes) {
        feed(x, bytes);
        return x.load(bytes.length);
    }

    static int[] cells(String text) {
        return text.chars().toArray();
    }

    /** So many cells, each of them other than all others. */
    static int[] distinct(int many) {
        int[] cells = new int[many];
        for (int i = 0; i < many; i++) {
            cells[i] = i;
        }
        return cells;
    }

    static int[] filled(int many, int v) {
        int[] cells = new int[many];
        Arrays.fill(cells, v);
        return cells;
    }

    static int[] joined(int[] first, int... second) {
        int[] all = Arrays.copyOf(first, first.length + second.length);
        System.arraycopy(second, 0, all, first.length, second.length);
        return all;
    }

    /** A patch of as many like acts. */
    static int[] patchOf(int acts, int... act) {
        int[] bytes = {40};
        for (int i = 0; i < acts; i++) {
            bytes = joined(bytes, act);
        }
        return bytes;
    }

    static String flash(PlaceMender x, int from, int to) {
        StringBuilder text = new StringBuilder();
        for (int i = from; i < to; i++) {
            text.append((char) x.cell(2, i));
        }
        return text.toString();
    }

    static String stash(PlaceMender x, int from, int to) {
        StringBuilder text = new StringBuilder();
        for (int i = from; i < to; i++) {
            text.append((char) x.cell(3, i));
        }
        return text.toString();
    }

    /** What the counts, cells, steps and dues are: some 220 calls, none of which changes anything. */
    static String surface(PlaceMender x) {
        StringBuilder seen = new StringBuilder();
        for (int what = 0; what < 12; what++) {
            note(seen, "count " + what, x.count(what));
        }
        for (int what = 0; what < 4; what++) {
            for (int i = 0; i < 40; i++) {
                note(seen, "cell " + what, x.cell(what, i));
            }
        }
        note(seen, "fault", x.fault(0));
        note(seen, "place", x.fault(1));
        int steps = x.steps();
        note(seen, "steps", steps);
        for (int s = 0; s < Math.min(steps, 9); s++) {
            note(seen, "step", 100 * x.step(s, 0) + x.step(s, 1));
        }
        for (int b = 0; b < 10; b++) {
            note(seen, "due", x.due(0, b));
        }
        note(seen, "fits", x.fits(2));
        return seen.toString();
    }

    /** What comes if the object goes on: what the journal has is seen so. */
    static String onwards(PlaceMender x) {
        StringBuilder seen = new StringBuilder();
        note(seen, "boot", x.boot());
        note(seen, "go", x.go(400));
        for (int b = 0; b < 10; b++) {
            note(seen, "digest", x.digest(b));
        }
        for (int i = 0; i < 20; i++) {
            note(seen, "stash", x.cell(3, i));
        }
        return seen.toString();
    }

    /** What comes if all is undone, the images are restored and the tape is taken. */
    static String backwards(PlaceMender x) {
        StringBuilder seen = new StringBuilder();
        while (x.count(10) > 0) {
            note(seen, "undo", x.undo(1));
            noteDevice(seen, x);
        }
        for (int i = 0; i < 2; i++) {
            note(seen, "restore", x.restore(i));
            noteDevice(seen, x);
            for (int what = 0; what < 6; what++) {
                note(seen, "count", x.count(what));
            }
        }
        note(seen, "tape", x.fresh(Math.min(40, x.count(11))));
        for (int i = 0; i < 40; i++) {
            note(seen, "cell", x.cell(1, i));
        }
        return seen.toString();
    }

    private static void noteDevice(StringBuilder seen, PlaceMender x) {
        for (int b = 0; b < 10; b++) {
            note(seen, "digest", x.digest(b));
        }
        for (int what = 6; what < 11; what++) {
            note(seen, "count", x.count(what));
        }
    }

    private static void note(StringBuilder seen, String what, long v) {
        seen.append(what).append(' ').append(v).append('\n');
    }
}
