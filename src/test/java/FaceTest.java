import java.io.IOException;
import java.lang.reflect.Field;
import java.lang.reflect.Method;
import java.lang.reflect.Modifier;
import java.nio.file.Files;
import java.nio.file.Path;
import java.util.Arrays;
import java.util.Set;
import java.util.TreeSet;
import java.util.regex.Matcher;
import java.util.regex.Pattern;

/** The public face, its constants, and the rules of LANGUAGE.md that can be read off the source. */
public final class FaceTest {
    private static final String SOURCE = "src/main/java/WinnersLeave.java";
    private static final String[] FACE = {
        "int harbour 4", "int ofPerson 2", "int train 2", "int learn 2", "int game 4", "int shy 2", "int fetch 1",
        "int season 5", "int safe 2", "int sure 1", "int common 2", "int pairs 1", "int orders 5", "int drops 4",
        "int reading 4", "int back 1", "int strengths 1", "int feints 1", "int kinds 1", "long odds 3", "int sheet 3",
        "int lose 1", "int put 3", "long cell 3", "int copy 5", "int tell 1", "int wave 1", "int as 2", "int trace 0",
        "int fault 0", "int many 1",
    };
    private static final String[] CONSTANTS = {
        "int FULL", "int NONE", "int OUTSIDE", "int STATE", "int UNKNOWN", "long LOST",
    };
    private static final Due DUE = new Due("FaceTest");

    public static void main(String[] args) throws IOException {
        constants();
        face();
        classesInside();
        forbiddenWords(withoutCommentsAndTexts(Files.readString(Path.of(SOURCE))));
        DUE.end();
    }

    private static void constants() {
        DUE.is("UNKNOWN", WinnersLeave.UNKNOWN, -1);
        DUE.is("OUTSIDE", WinnersLeave.OUTSIDE, -2);
        DUE.is("STATE", WinnersLeave.STATE, -3);
        DUE.is("FULL", WinnersLeave.FULL, -4);
        DUE.is("NONE", WinnersLeave.NONE, -9);
        DUE.is("LOST", WinnersLeave.LOST, Long.MIN_VALUE);
    }

    private static void face() {
        Set<String> methods = new TreeSet<>();
        Set<String> publicNames = new TreeSet<>();
        Set<String> privateNames = new TreeSet<>();
        for (Method m : WinnersLeave.class.getDeclaredMethods()) {
            if (Modifier.isPrivate(m.getModifiers())) {
                privateNames.add(m.getName());
                DUE.is(m + " has at most seven parameters", m.getParameterCount() <= 7 ? 1 : 0, 1);
            } else {
                publicNames.add(m.getName());
                methods.add(m.getReturnType() + " " + m.getName() + " " + m.getParameterCount());
            }
        }
        same("methods", methods, FACE);
        privateNames.retainAll(publicNames);
        DUE.is("private methods named as public ones " + privateNames, privateNames.size(), 0);
        Set<String> fields = new TreeSet<>();
        for (Field f : WinnersLeave.class.getDeclaredFields()) {
            if (!Modifier.isPrivate(f.getModifiers())) {
                fields.add(f.getType() + " " + f.getName());
            }
        }
        same("constants", fields, CONSTANTS);
        DUE.is("constructors", WinnersLeave.class.getDeclaredConstructors().length, 1);
        DUE.is("public constructors", WinnersLeave.class.getConstructors().length, 1);
        DUE.is("final", Modifier.isFinal(WinnersLeave.class.getModifiers()) ? 1 : 0, 1);
    }

    private static void same(String what, Set<String> got, String[] due) {
        Set<String> dueSet = Set.of(due);
        DUE.is(what + " " + got, got.equals(dueSet) ? 1 : 0, 1);
    }

    private static void classesInside() {
        Class<?>[] inside = WinnersLeave.class.getDeclaredClasses();
        DUE.is("at most twelve classes", inside.length <= 11 ? 1 : 0, 1);
        for (Class<?> c : inside) {
            DUE.is(c + " is static", Modifier.isStatic(c.getModifiers()) ? 1 : 0, 1);
            DUE.is(c + " is not public", Modifier.isPublic(c.getModifiers()) ? 1 : 0, 0);
            for (Method m : c.getDeclaredMethods()) {
                boolean asPublic = Arrays.stream(FACE).anyMatch(call -> call.split(" ")[1].equals(m.getName()));
                DUE.is(m + " is named as a public one", asPublic ? 1 : 0, 0);
                DUE.is(m + " has at most seven parameters", m.getParameterCount() <= 7 ? 1 : 0, 1);
            }
            for (Field f : c.getDeclaredFields()) {
                boolean kept = Modifier.isStatic(f.getModifiers()) && !Modifier.isFinal(f.getModifiers());
                DUE.is(f + " is static and changes", kept ? 1 : 0, 0);
            }
        }
    }

    private static String withoutCommentsAndTexts(String source) {
        return source.replaceAll("(?s)/\\*.*?\\*/", " ").replaceAll("//.*", " ").replaceAll("\"[^\"\n]*\"", "\"\"");
    }

    private static void forbiddenWords(String source) {
        String[] words = {"throws?", "try", "catch", "synchronized", "assert", "package", "public\\s+static\\s+void",
            "protected", "Exact", "System\\.(?!arraycopy\\b)", "import\\s+(?!java\\.util\\.Arrays;)", "volatile", "Object"};
        for (String word : words) {
            Matcher m = Pattern.compile("\\b" + word + "|->|::").matcher(source);
            DUE.is("'" + word + "' in the source", m.find() ? 1 : 0, 0);
        }
    }
}
