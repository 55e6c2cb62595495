import java.lang.reflect.Method;
import java.lang.reflect.Modifier;
import java.util.ArrayList;
import java.util.Arrays;
import java.util.Comparator;
import java.util.List;
import java.util.Random;

/** Many runs of calls, made by fixed seeds, on the program and on the model: every answer must be the same. */
public final class ModelRuns {
    private static final int RUNS = 160;
    private static final int CALLS = 500;
    private static final int[] EDGES = {-2, -1, 0, 1, 2, 3, 4, 5, 9, 10, 11, 19, 20, 21, 36, 39, 40, 41, 160, 255, 256,
        400, 401, Integer.MAX_VALUE, Integer.MIN_VALUE};

    private final Check check;
    private final Random random;
    private final int run;
    private final PlaceMender mender = new PlaceMender();
    private final Model model = new Model();
    private final Method[] asked;
    private final Method[] answered;

    private ModelRuns(Check check, int run, Method[] face, Method[] faceOfModel) {
        this.check = check;
        this.run = run;
        this.random = new Random(7919L * run + 1);
        this.asked = face;
        this.answered = faceOfModel;
    }

    public static void main(String[] args) throws ReflectiveOperationException {
        Method[] face = Arrays.stream(PlaceMender.class.getDeclaredMethods())
                .filter(m -> Modifier.isPublic(m.getModifiers()))
                .sorted(Comparator.comparing(Method::getName)).toArray(Method[]::new);
        Method[] faceOfModel = new Method[face.length];
        for (int i = 0; i < face.length; i++) {
            faceOfModel[i] = Model.class.getDeclaredMethod(face[i].getName(), face[i].getParameterTypes());
        }
        Check check = new Check();
        check.same("how many methods", face.length, 50);
        for (int i = 0; i < face.length; i++) {
            for (int round = 0; round < 6; round++) {
                new ModelRuns(check, 1000 + round, face, faceOfModel).askFirst(i, round);
            }
        }
        for (int run = 0; run < RUNS && check.wrong() < 10; run++) {
            new ModelRuns(check, run, face, faceOfModel).go();
        }
        check.end();
    }

    /** One call right behind others that leave all to be reckoned anew. */
    private void askFirst(int i, int round) throws ReflectiveOperationException {
        List<Integer> old = new ArrayList<>();
        for (int n = 0; n < 40; n++) {
            old.add(random.nextInt(30));
        }
        feed(old);
        call("old", 40);
        feed(shuffled(old));
        call("fresh", 40);
        call("burn");
        if (round > 0) {
            call("take");
            call("go", 2);
            call("image", 0);
            call("burn");
            feed(old.subList(0, 20));
            call(round > 2 ? "old" : "fresh", 20);
            call(round % 2 == 0 ? "restore" : "undo", round % 2);
        }
        Object[] numbers = new Object[asked[i].getParameterCount()];
        for (int p = 0; p < numbers.length; p++) {
            numbers[p] = p == 0 ? 1 + round % 2 : 0;
        }
        compare(i, numbers);
        for (int what = 0; what < 12; what++) {
            call("count", what);
        }
    }

    private void go() throws ReflectiveOperationException {
        int calls = 0;
        while (calls < CALLS) {
            calls += switch (random.nextInt(13)) {
                case 0 -> newImages();
                case 1 -> takeByHand();
                case 2, 3 -> lifeOfDevice();
                case 4 -> wholeState();
                case 5 -> stashAlone();
                default -> anyCalls(12);
            };
        }
    }

    private int call(String name, int... numbers) throws ReflectiveOperationException {
        for (int i = 0; i < asked.length; i++) {
            if (asked[i].getName().equals(name)) {
                compare(i, Arrays.stream(numbers).boxed().toArray());
            }
        }
        return 1;
    }

    private void compare(int i, Object[] numbers) throws ReflectiveOperationException {
        long got = ((Number) asked[i].invoke(mender, numbers)).longValue();
        long due = ((Number) answered[i].invoke(model, numbers)).longValue();
        check.same("run " + run + ": " + asked[i].getName() + Arrays.toString(numbers), got, due);
    }

    private int anyCalls(int many) throws ReflectiveOperationException {
        for (int n = 0; n < many; n++) {
            int i = random.nextInt(asked.length);
            // burning, taking and restoring too often would leave nothing to look at
            if (random.nextInt(3) > 0 && List.of("old", "fresh", "burn", "take", "load", "restore", "undo", "feed")
                    .contains(asked[i].getName())) {
                continue;
            }
            Object[] numbers = new Object[asked[i].getParameterCount()];
            for (int p = 0; p < numbers.length; p++) {
                numbers[p] = random.nextInt(5) == 0 ? EDGES[random.nextInt(EDGES.length)] : random.nextInt(
                        random.nextBoolean() ? 4 : 12);
            }
            compare(i, numbers);
        }
        return many;
    }

    private int feed(List<Integer> bytes) throws ReflectiveOperationException {
        int calls = 0;
        for (int at = 0; at < bytes.size(); at += 20) {
            int[] words = new int[5];
            for (int i = 0; i < 20; i++) {
                int one = at + i < bytes.size() ? bytes.get(at + i) : 0;
                words[i / 4] = words[i / 4] << 8 | one;
            }
            calls += call("feed", words);
        }
        return calls;
    }

    private int newImages() throws ReflectiveOperationException {
        int letters = 1 + random.nextInt(random.nextBoolean() ? 4 : 200);
        List<Integer> old = new ArrayList<>();
        int size = random.nextInt(5) == 0 ? random.nextInt(41) : 30 + random.nextInt(11);
        for (int i = 0; i < size; i++) {
            old.add(random.nextInt(8) == 0 ? random.nextInt(256) : random.nextInt(letters));
        }
        List<Integer> fresh = random.nextBoolean() ? pieces(old, size) : shuffled(old);
        int calls = call("old", 0) + feed(old) + call("old", old.size());
        calls += feed(fresh) + call("fresh", fresh.size());
        calls += call("terms", 0, 3 + random.nextInt(random.nextInt(4) == 0 ? 6 : 2)) + call("terms", 1, random.nextInt(3));
        calls += call("terms", 2, random.nextInt(3)) + call("terms", 3, random.nextInt(21));
        return calls + planned();
    }

    /** Pieces of the old image from anywhere, with other cells between some of them. */
    private List<Integer> pieces(List<Integer> old, int size) {
        List<Integer> made = new ArrayList<>();
        int wanted = Math.min(40, Math.max(0, size + random.nextInt(7) - 3));
        while (made.size() < wanted) {
            if (old.isEmpty() || random.nextInt(4) == 0) {
                made.add(random.nextInt(256));
                continue;
            }
            int from = random.nextInt(old.size());
            int length = 3 + random.nextInt(6);
            for (int i = from; i < Math.min(old.size(), from + length) && made.size() < wanted; i++) {
                made.add(old.get(i));
            }
        }
        return made;
    }

    /** The old image cut into short rows, these in another order: many rings. */
    private List<Integer> shuffled(List<Integer> old) {
        List<List<Integer>> rows = new ArrayList<>();
        for (int at = 0; at < old.size();) {
            int length = Math.min(old.size() - at, 3 + random.nextInt(random.nextInt(3) + 1));
            rows.add(old.subList(at, at + length));
            at += length;
        }
        java.util.Collections.shuffle(rows, random);
        List<Integer> made = new ArrayList<>();
        rows.forEach(made::addAll);
        return made;
    }

    private int planned() throws ReflectiveOperationException {
        for (String name : List.of("least", "commands", "ringed", "acts", "needs", "turned")) {
            call(name);
        }
        for (int what = 0; what < 4; what++) {
            call("plan", what);
            call("share", what);
            call("best", what);
            if (run % 5 == 0) {
                call("fewest", what);
            }
        }
        for (int k = 0; k < 6; k++) {
            int command = random.nextInt(14);
            call("command", command, random.nextInt(5));
            call("ring", command, random.nextInt(4) - 1);
            call("act", command, random.nextInt(3));
            call("patch", random.nextInt(60));
        }
        return 46;
    }

    private int takeByHand() throws ReflectiveOperationException {
        List<Integer> bytes = new ArrayList<>(List.of(random.nextInt(41)));
        int acts = random.nextInt(6) == 0 ? 37 : 1 + random.nextInt(9);
        for (int i = 0; i < acts && bytes.size() < 140; i++) {
            addAct(bytes, acts > 30);
        }
        if (random.nextInt(3) == 0) {
            bytes.set(random.nextInt(bytes.size()), EDGES[2 + random.nextInt(18)] & 255);
        }
        int n = random.nextInt(5) == 0 ? random.nextInt(bytes.size() + 1) : bytes.size();
        int calls = call("old", model.count(0) == 0 ? 0 : -1);
        if (model.count(11) + (bytes.size() + 19) / 20 * 20 > 160) {
            calls += call("load", 0);
        }
        calls += feed(bytes);
        calls += call("load", n) + call("fault", 0) + call("fault", 1) + call("steps") + call("hazard", 0);
        return calls + call("hazard", 1) + call("wear", random.nextInt(10)) + call("cuts", random.nextInt(4));
    }

    private void addAct(List<Integer> bytes, boolean small) {
        int code = small && random.nextInt(9) > 0 ? 1 + random.nextInt(3) : 1 + random.nextInt(4);
        int flash = random.nextInt(40);
        int other = random.nextInt(40);
        int stash = random.nextInt(20);
        int most = random.nextBoolean() ? 40 : 7;
        bytes.add(code);
        switch (code) {
            case 1 -> {
                int length = upTo(Math.min(most, Math.min(40 - flash, 20 - stash)));
                bytes.addAll(List.of(flash, length, stash));
            }
            case 2 -> bytes.addAll(List.of(flash, other, upTo(Math.min(most, 40 - Math.max(flash, other)))));
            case 3 -> bytes.addAll(List.of(flash, stash, upTo(Math.min(most, Math.min(40 - flash, 20 - stash)))));
            default -> {
                int length = upTo(Math.min(small ? 1 : 12, 40 - flash));
                bytes.addAll(List.of(flash, length));
                for (int i = 0; i < length; i++) {
                    bytes.add(random.nextInt(random.nextBoolean() ? 3 : 256));
                }
            }
        }
    }

    private int upTo(int most) {
        return 1 + random.nextInt(most);
    }

    /** Flash that hardly changes, so that only the cells of the stash that are needed tell steps from one another. */
    private int stashAlone() throws ReflectiveOperationException {
        List<Integer> old = new ArrayList<>();
        for (int i = 0; i < 40; i++) {
            old.add(random.nextInt(4) == 0 ? 0 : 255);
        }
        int calls = call("old", 0) + feed(old) + call("old", 40) + call("burn");
        List<Integer> bytes = new ArrayList<>(List.of(0));
        int acts = 2 + random.nextInt(6);
        for (int i = 0; i < acts; i++) {
            int length = 1 + random.nextInt(6);
            int flash = random.nextInt(41 - length);
            int stash = random.nextInt(Math.min(10, 21 - length));
            bytes.addAll(random.nextBoolean() ? List.of(1, flash, length, stash) : List.of(3, flash, stash, length));
        }
        calls += feed(bytes) + call("load", bytes.size());
        for (int s = 0; s <= model.steps() && s < 12; s++) {
            calls += call("fits", 0) + call("fits", 1) + call("fits", 2);
            if (random.nextInt(4) == 0) {
                calls += call("cut", random.nextInt(4), random.nextInt(4)) + call("fits", 2) + call("forget");
                calls += call("boot") + call("fits", 1);
            }
            calls += call("go", 1);
        }
        return calls;
    }

    private int lifeOfDevice() throws ReflectiveOperationException {
        int calls = 0;
        if (random.nextInt(3) == 0) {
            calls += call("burn") + call("take");
        }
        calls += call("go", 1 + random.nextInt(6));
        calls += call("cut", random.nextInt(4), random.nextInt(4)) + call("count", 9) + call("count", 8);
        if (random.nextInt(4) == 0) {
            calls += call("spoil", random.nextInt(40), random.nextBoolean() ? 255 : random.nextInt(256));
        }
        if (random.nextBoolean()) {
            calls += call("forget") + call("count", 7);
        }
        calls += call("fits", 0) + call("fits", 1) + call("fits", 2);
        calls += call("boot") + call("count", 7) + call("count", 8) + call("go", 1 + random.nextInt(9));
        if (random.nextInt(4) == 0) {
            calls += call("go", 400) + call("right");
        }
        if (random.nextInt(3) == 0) {
            calls += call("undo", 1 + random.nextInt(4)) + call("count", 10);
        }
        int s = random.nextInt(1 + model.steps());
        calls += call("due", s, random.nextInt(10)) + call("step", s, 2) + call("step", s, 1) + call("step", s, 0);
        return calls + call("cuts", random.nextInt(4)) + call("twice", random.nextInt(4), random.nextInt(4));
    }

    private int wholeState() throws ReflectiveOperationException {
        for (int i = 0; i < 40; i += 1 + random.nextInt(6)) {
            for (int what = 0; what < 4; what++) {
                call("cell", what, i);
            }
        }
        for (int what = 0; what < 13; what++) {
            call("count", what);
        }
        return 50;
    }
}
