import java.io.IOException;
import java.lang.reflect.Constructor;
import java.lang.reflect.Field;
import java.lang.reflect.Method;
import java.lang.reflect.Modifier;
import java.nio.file.Files;
import java.nio.file.Path;
import java.util.ArrayList;
import java.util.List;
import java.util.Set;
import java.util.TreeSet;
import java.util.regex.Matcher;
import java.util.regex.Pattern;

/** The document's face and what of LANGUAGE.md can be seen from outside; takes the checkout's path. */
public final class RulesTest {
    private static final String FACE = "height(int,int) spring(int,int) cell(int,int) tent(int) of(int,int) change(int,int,int) "
        + "beat(int) go(int) now(int) way(int,int,int) climb(int,int) reach(int,int) drink(int,int) ahead(int,int) "
        + "felt(int,int,int) when(int,int,int) settles() lies(int,int) unlike(int,int) home(int) pitchFor(int,int,int,int) "
        + "kindFor(int,int) first(int,int,int) out(int,int,int,int) fits(int,int) kinds(int,int) nomads(int) odds(int,int) "
        + "seed(int) feed(int,int) wipe() text() hold(int,int) as(int,int) sheet(int,int,int) write(int,int,int) "
        + "copy(int,int,int,int,int) load(int) judge(int,int) image() undo() tear() count(int) status(int)";

    public static void main(String[] args) throws IOException {
        face();
        hidden();
        source(Files.readString(Path.of(args[0], "src/main/java/GroundTents.java")));
        Check.end();
    }

    private static void face() {
        Set<String> want = new TreeSet<>(List.of(FACE.split(" ")));
        Set<String> got = new TreeSet<>();
        for (Method m : GroundTents.class.getDeclaredMethods()) {
            if (!Modifier.isPrivate(m.getModifiers())) {
                got.add(signature(m));
                Class<?> answer = m.getName().equals("odds") ? long.class : int.class;
                due("what " + m.getName() + " answers", m.getReturnType() == answer);
                due(m.getName() + " is public and no more", m.getModifiers() == Modifier.PUBLIC);
            }
        }
        due("the face is " + got, want.equals(got));
        Constructor<?>[] made = GroundTents.class.getDeclaredConstructors();
        due("one public constructor", made.length == 1 && Modifier.isPublic(made[0].getModifiers())
            && made[0].getParameterCount() == 0);
        due("public and final", GroundTents.class.getModifiers() == (Modifier.PUBLIC | Modifier.FINAL));
    }

    private static String signature(Method m) {
        List<String> types = new ArrayList<>();
        for (Class<?> type : m.getParameterTypes()) {
            types.add(type.getName());
        }
        return m.getName() + "(" + String.join(",", types) + ")";
    }

    private static void hidden() {
        Set<String> names = new TreeSet<>();
        for (String call : FACE.split(" ")) {
            names.add(call.substring(0, call.indexOf('(')));
        }
        List<Class<?>> all = new ArrayList<>(List.of(GroundTents.class.getDeclaredClasses()));
        due("at most twelve classes", all.size() < 12);
        for (Class<?> inside : all) {
            due(inside.getName() + " is static", Modifier.isStatic(inside.getModifiers()));
            for (Method m : inside.getDeclaredMethods()) {
                due(inside.getName() + "." + m.getName() + " bears a public name", !names.contains(m.getName()));
            }
        }
        all.add(GroundTents.class);
        for (Class<?> c : all) {
            fields(c);
            for (Method m : c.getDeclaredMethods()) {
                due(m.getName() + " takes at most seven", m.getParameterCount() <= 7);
                due(m.getName() + " bears a public name", !Modifier.isPrivate(m.getModifiers()) || !names.contains(m.getName()));
            }
        }
    }

    private static void fields(Class<?> c) {
        int own = 0;
        for (Field f : c.getDeclaredFields()) {
            if (Modifier.isStatic(f.getModifiers())) {
                due("static " + f.getName() + " is final", Modifier.isFinal(f.getModifiers()));
            } else {
                own++;
            }
            due(f.getName() + " is private", Modifier.isPrivate(f.getModifiers()));
        }
        due("fields of " + c.getName(), own <= 20);
    }

    private static void source(String text) {
        String code = text.replaceAll("(?s)/\\*.*?\\*/", " ").replaceAll("//[^\n]*", " ");
        String[] words = {"throw", "throws", "try", "catch", "synchronized", "assert", "package", "Random", "nanoTime",
            "currentTimeMillis", "Object", "Thread", "HashMap", "hashCode", "toString", "var", "yield", "finalize"};
        for (String word : words) {
            due("no '" + word + "'", !code.matches("(?s).*\\b" + word + "\\b.*"));
        }
        due("no lambda, no arrow", !code.contains("->"));
        due("no method reference", !code.contains("::"));
        due("nothing that ends in Exact", !code.matches("(?s).*Exact\\b.*"));
        due("one import, of Arrays", code.split("\\bimport\\b").length == 2 && code.contains("import java.util.Arrays;"));
        due("signs 1 to 127", text.chars().allMatch(c -> c >= 1 && c <= 127));
        library(code);
        methodLengths(text);
    }

    /** Rule 4: of other classes only these; of Integer, Long and Math any function but those seen above. */
    private static void library(String code) {
        Set<String> free = new TreeSet<>(List.of("Integer", "Long", "Math"));
        for (Class<?> inside : GroundTents.class.getDeclaredClasses()) {
            free.add(inside.getSimpleName());
        }
        Set<String> listed = Set.of("System.arraycopy", "Arrays.copyOf", "Arrays.copyOfRange", "Arrays.fill");
        Matcher used = Pattern.compile("\\b([A-Z][A-Za-z]*[a-z])\\.(\\w+)").matcher(code.replace("import java.util.Arrays;", ""));
        while (used.find()) {
            due("rule 4 lists " + used.group(), free.contains(used.group(1)) || listed.contains(used.group()));
        }
    }

    private static void methodLengths(String text) {
        String[] lines = text.split("\n");
        int begin = 0;
        for (int i = 0; i < lines.length; i++) {
            if (lines[i].matches("( {4}| {8})(public|private)[^;=]*\\{")) {
                begin = i;
            } else if (lines[i].matches("( {4}| {8})\\}") && !lines[begin].contains(" class ")) {
                due("the method of line " + (begin + 1) + " is short", i - begin <= 60);
                begin = i;
            }
        }
    }

    private static void due(String what, boolean holds) {
        Check.due("rules: " + what, 1, holds ? 1 : 0);
    }
}
