import java.lang.reflect.InvocationTargetException;
import java.lang.reflect.Method;
import java.lang.reflect.Modifier;
import java.util.Arrays;
import java.util.HashMap;
import java.util.List;
import java.util.Map;
import java.util.function.Supplier;

/**
 * Calls told as texts, each under the sentence of the document that it holds to: "height(7, 0)" is a call,
 * "height(7, 0) = 50" a call with the answer that is due. Findings are told by name, MIN and MAX are the least
 * and the greatest int. Four calls are the tests' own: put(a text) on the tape, read(a text), the answer of text();
 * fill(s, bits, numbers) makes a sheet; ground(heights of cells 0, 1, ..).
 */
final class Edge {
    private static final List<String> FINDINGS = List.of("BEYOND", "FULL", "KIND", "NONE", "STATE", "MISSING", "SIZE");
    private static final Map<String, Method> METHODS = methods();

    private Edge() {
    }

    private static Map<String, Method> methods() {
        Map<String, Method> all = new HashMap<>();
        for (Method m : GroundTents.class.getDeclaredMethods()) {
            if (Modifier.isPublic(m.getModifiers())) {
                all.put(m.getName(), m);
            }
        }
        return all;
    }

    /** A run of calls on a new object. */
    static void run(String sentence, String... steps) {
        run(sentence, new GroundTents(), steps);
    }

    static void run(String sentence, GroundTents x, String... steps) {
        for (String step : steps) {
            int at = step.lastIndexOf(" = ");
            Check.due(sentence + ": " + step, number(step.substring(at + 3)), call(x, step.substring(0, at)));
        }
    }

    /** A call whose answer is not asked. */
    static void tell(GroundTents x, String call) {
        call(x, call);
    }

    /** Each call, on an object of its own, answers the finding, which status() counts, and changes nothing else. */
    static void refused(String sentence, Supplier<GroundTents> camp, String finding, String... calls) {
        for (String call : calls) {
            long[] want = statuses(camp.get());
            want[0]++;
            want[1 + FINDINGS.indexOf(finding)]++;
            changesNothing(sentence + ": " + call, camp, call, number(finding), want);
        }
    }

    /** Each call, on an object of its own, changes nothing, and status() counts nothing. */
    static void still(String sentence, Supplier<GroundTents> camp, String... calls) {
        for (String call : calls) {
            changesNothing(sentence + ": " + call, camp, call, call(camp.get(), call), statuses(camp.get()));
        }
    }

    private static void changesNothing(String what, Supplier<GroundTents> camp, String call, long want, long[] counted) {
        Supplier<GroundTents> behind = () -> {
            GroundTents x = camp.get();
            Check.due(what, want, call(x, call));
            same(what + ", what status() counts", counted, statuses(x));
            return x;
        };
        alike(what + ", what is there behind it", camp, behind);
    }

    /** Of two camps all is the same, but for status(). */
    static void alike(String what, Supplier<GroundTents> want, Supplier<GroundTents> got) {
        for (int part = 0; part < Whole.PARTS; part++) {
            same(what, Whole.part(want.get(), part), Whole.part(got.get(), part));
        }
    }

    private static void same(String what, long[] want, long[] got) {
        if (!Arrays.equals(want, got)) {
            Check.due(what + ": " + Arrays.toString(got) + " isn't " + Arrays.toString(want), 1, 0);
        }
    }

    private static long[] statuses(GroundTents x) {
        long[] all = new long[8];
        for (int which = -1; which < 7; which++) {
            all[which + 1] = x.status(which);
        }
        return all;
    }

    private static long number(String word) {
        if (FINDINGS.contains(word)) {
            return -1000001 - FINDINGS.indexOf(word);
        }
        return word.equals("MIN") ? Integer.MIN_VALUE : word.equals("MAX") ? Integer.MAX_VALUE : Long.decode(word);
    }

    private static long call(GroundTents x, String call) {
        int open = call.indexOf('(');
        String name = call.substring(0, open);
        String inside = call.substring(open + 1, call.length() - 1);
        if (name.equals("read")) {
            return Check.read(x, inside);
        }
        if (name.equals("put")) {
            Check.feed(x, inside);
            return x.count(5);
        }
        int[] a = inside.isEmpty() ? new int[0]
            : Arrays.stream(inside.split(",")).mapToInt(word -> (int) number(word.trim())).toArray();
        switch (name) {
            case "fill":
                Check.sheet(x, a[0], a[1], Arrays.copyOfRange(a, 2, a.length));
                return a.length - 2;
            case "ground":
                Check.ground(x, a);
                return a.length;
            default:
                return invoke(x, METHODS.get(name), a);
        }
    }

    private static long invoke(GroundTents x, Method m, int[] a) {
        try {
            return ((Number) m.invoke(x, Arrays.stream(a).boxed().toArray())).longValue();
        } catch (InvocationTargetException e) {
            e.getCause().printStackTrace(System.out);
            Check.due(m.getName() + Arrays.toString(a) + " threw", 0, 1);
            return Long.MIN_VALUE;
        } catch (IllegalAccessException e) {
            throw new IllegalStateException(e);
        }
    }
}
