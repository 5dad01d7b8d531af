import java.lang.reflect.InvocationTargetException;
import java.lang.reflect.Method;
import java.util.ArrayList;
import java.util.Comparator;
import java.util.List;
import java.util.Random;

/** All promises: runs of calls, drawn from fixed seeds, on the class and on the model; all answers must be the same. */
public final class RandomRunsTest {
    private static final int RUNS = 400;
    private static final int CALLS = 512;
    private static final String[] WORDS = {"tent", "stiff", "soft", "patched", "chiefs", "old", "laced", "height", "spring",
        "dry", "on", "worn", "felt", ";", "x", "."};

    private final Random random;
    private final GroundTents real = new GroundTents();
    private final Model model = new Model();
    private final List<String> told = new ArrayList<>();
    private boolean same = true;

    private RandomRunsTest(long seed) {
        random = new Random(seed);
    }

    public static void main(String[] args) throws ReflectiveOperationException {
        List<Method> methods = new ArrayList<>();
        for (Method m : GroundTents.class.getDeclaredMethods()) {
            if (java.lang.reflect.Modifier.isPublic(m.getModifiers())) {
                methods.add(m);
            }
        }
        methods.sort(Comparator.comparing(Method::getName));
        for (int seed = 0; seed < RUNS; seed++) {
            new RandomRunsTest(seed).run(methods);
        }
        Check.end();
    }

    private void run(List<Method> methods) throws ReflectiveOperationException {
        settle();
        while (told.size() < CALLS && same) {
            if (random.nextInt(12) == 0) {
                feedText();
            }
            if (random.nextInt(15) == 0) {
                writeSheet();
            }
            Method m = methods.get(random.nextInt(methods.size()));
            if (isRare(m.getName()) && random.nextInt(4) != 0) {
                continue;
            }
            int[] a = new int[m.getParameterCount()];
            for (int i = 0; i < a.length; i++) {
                a[i] = argument(m.getName(), i);
            }
            call(m, a);
        }
    }

    /** Some runs begin on rough ground with tents, others on the flat with none. */
    private void settle() throws ReflectiveOperationException {
        if (random.nextInt(4) == 0) {
            return;
        }
        int steep = 1 + random.nextInt(100);
        for (int c = 0; c < 25; c++) {
            call("height", c, Math.min(99, random.nextInt(steep) + random.nextInt(101 - steep)));
        }
        for (int t = random.nextInt(7); t > 0; t--) {
            call("tent", random.nextInt(7));
        }
    }

    private static boolean isRare(String name) {
        return List.of("tear", "undo", "beat", "wipe", "text", "when", "settles", "lies", "out", "climb").contains(name);
    }

    private int argument(String name, int i) {
        if (random.nextInt(40) == 0) {
            int[] odd = {-1, -2, Integer.MIN_VALUE, Integer.MAX_VALUE, 16, 24, 25, 40, 41, 60, 61, 99, 100, 101, 255, 256, -1000001};
            return odd[random.nextInt(odd.length)];
        }
        switch (name) {
            case "height": return random.nextInt(i == 0 ? 25 : 100);
            case "spring": return random.nextInt(i == 0 ? 25 : 2);
            case "cell": return random.nextInt(i == 0 ? 25 : 4);
            case "tent": return random.nextInt(7);
            case "of": return random.nextInt(i == 0 ? 6 : 8);
            case "change": return i == 2 ? changeTo() : random.nextInt(i == 0 ? 6 : 8);
            case "go": return random.nextInt(8) == 0 ? random.nextInt(62) : 1 + random.nextInt(3);
            case "way": case "when": return i == 2 ? random.nextInt(100) : random.nextInt(25);
            case "climb": return random.nextInt(25);
            case "reach": case "drink": return i == 1 ? random.nextInt(100) : random.nextInt(25);
            case "ahead": return i == 0 ? random.nextInt(25) : random.nextInt(101);
            case "felt": return i == 0 ? random.nextInt(6) : random.nextInt(i == 1 ? 4 : 101);
            case "lies": return i == 0 ? random.nextInt(6) : random.nextInt(4);
            case "unlike": return random.nextInt(i == 0 ? 6 : 16);
            case "pitchFor": return new int[] {random.nextInt(6), random.nextInt(25), random.nextInt(25), random.nextInt(100)}[i];
            case "kindFor": return random.nextInt(i == 0 ? 6 : 61);
            case "first": return random.nextInt(i < 2 ? 6 : 16);
            case "out": return new int[] {random.nextInt(6), random.nextInt(16), random.nextInt(100), random.nextInt(30)}[i];
            case "nomads": return random.nextInt(6) == 0 ? random.nextInt(22) : 1 + random.nextInt(3);
            case "odds": return random.nextInt(i == 0 ? 16 : 2);
            case "seed": return random.nextInt();
            case "feed": return i == 0 ? random.nextInt() : 1 + random.nextInt(4);
            case "hold": return i == 0 ? random.nextInt(10) : random.nextInt(7) - 1;
            case "as": return random.nextInt(i == 0 ? 10 : 7);
            case "sheet": return i == 1 ? 8 * random.nextInt(5) : random.nextInt(i == 0 ? 4 : 42);
            case "write": return new int[] {random.nextInt(4), random.nextInt(6), random.nextInt(300) - 2}[i];
            case "copy": return i == 0 || i == 2 ? random.nextInt(4) : random.nextInt(12);
            case "judge": return random.nextInt(i == 0 ? 4 : 100);
            case "fits": case "kinds": case "load": return random.nextInt(i == 0 ? 4 : 6);
            case "count": return random.nextInt(8);
            case "now": return random.nextInt(6);
            case "status": return random.nextInt(9) - 1;
            default: return random.nextInt(6);
        }
    }

    private int changeTo() {
        switch (random.nextInt(3)) {
            case 0: return random.nextInt(7);
            case 1: return random.nextInt(17) - 1;
            default: return random.nextInt(102) - 1;
        }
    }

    /** A walk for judge, heights for load, or felt as it will be for fits and kinds; then one of these calls. */
    private void writeSheet() throws ReflectiveOperationException {
        int s = random.nextInt(4);
        int tent = random.nextInt(6);
        int n = 1 + random.nextInt(9);
        int sort = random.nextInt(3);
        int cell = random.nextInt(25);
        call("sheet", s, 8 << random.nextInt(3), n);
        for (int i = 0; i < n; i++) {
            int felt = real.felt(tent, Math.min(3, i), 1);
            boolean any = random.nextInt(4) == 0 || felt < -1;
            model.call("felt", new int[] {tent, Math.min(3, i), 1});
            call("write", s, i, sort == 0 ? cell : sort == 1 ? random.nextInt(100) : any ? -1 : felt);
            int[] next = {cell - 5, cell - 1, cell + 1, cell + 5};
            cell = next[random.nextInt(4)];
        }
        switch (sort) {
            case 0: call("judge", s, random.nextInt(100)); break;
            case 1: call("load", s); break;
            default:
                call("kinds", s, tent);
                call("fits", s, tent);
        }
    }

    private void feedText() throws ReflectiveOperationException {
        StringBuilder text = new StringBuilder();
        int items = 1 + random.nextInt(4);
        for (int i = 0; i < items; i++) {
            text.append(i == 0 ? "" : ";").append(item());
        }
        for (int i = random.nextInt(3); i > 0; i--) {
            spoil(text);
        }
        if (random.nextInt(8) != 0) {
            call("wipe");
        }
        for (int i = 0; i < text.length(); i++) {
            call("feed", text.charAt(i), 1);
        }
        call("text");
    }

    private String item() {
        int word = random.nextInt(10);
        StringBuilder item = new StringBuilder(WORDS[word]);
        if (word < 7) {
            item.append(random.nextBoolean() ? " on " + random.nextInt(16) : "");
            item.append(random.nextInt(3) == 0 ? " worn " + random.nextInt(100) : "");
            item.append(random.nextInt(3) == 0 ? " felt " + numbers(4, 100) : "");
            return item.toString();
        }
        return item.append(' ').append(random.nextInt(25)).append(word == 7 ? " " + random.nextInt(100) : "").toString();
    }

    private String numbers(int n, int below) {
        StringBuilder row = new StringBuilder();
        for (int i = 0; i < n; i++) {
            row.append(random.nextInt(below)).append(' ');
        }
        return row.toString();
    }

    private void spoil(StringBuilder text) {
        int at = random.nextInt(text.length() + 1);
        switch (random.nextInt(4)) {
            case 0: text.insert(at, WORDS[random.nextInt(WORDS.length)]); break;
            case 1: text.insert(at, " "); break;
            case 2: text.insert(at, random.nextInt(120)); break;
            default: text.setLength(Math.max(1, at));
        }
    }

    private void call(String name, int... a) throws ReflectiveOperationException {
        Class<?>[] types = new Class<?>[a.length];
        java.util.Arrays.fill(types, int.class);
        call(GroundTents.class.getDeclaredMethod(name, types), a);
    }

    private void call(Method m, int[] a) throws ReflectiveOperationException {
        if (!same || told.size() >= CALLS) {
            return;
        }
        Object[] boxed = new Object[a.length];
        for (int i = 0; i < a.length; i++) {
            boxed[i] = a[i];
        }
        String call = m.getName() + java.util.Arrays.toString(a);
        told.add(call);
        long want = model.call(m.getName(), a);
        long got;
        try {
            got = ((Number) m.invoke(real, boxed)).longValue();
        } catch (InvocationTargetException e) {
            e.getCause().printStackTrace(System.out);
            got = want + 1;
        }
        if (got != want) {
            same = false;
            System.out.println("a run: " + told);
        }
        Check.due("call " + told.size() + ", " + call, want, got);
    }
}
