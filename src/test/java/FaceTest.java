import java.io.IOException;
import java.lang.reflect.Field;
import java.lang.reflect.Method;
import java.lang.reflect.Modifier;
import java.nio.file.Files;
import java.nio.file.Path;
import java.util.Arrays;
import java.util.Set;
import java.util.TreeSet;
import java.util.regex.Matcher;
import java.util.regex.Pattern;

/** The public face, its constants, and the rules of LANGUAGE.md that can be read off the source. */
public final class FaceTest {
    private static final String SOURCE = "src/main/java/WinnersLeave.java", DOC = "../shared/DOC.md";
    private static final int MOST_LINES = 60, MOST_FIELDS = 20;
    private static final String[] FACE = {
        "int harbour 4", "int ofPerson 2", "int train 2", "int learn 2", "int game 4", "int shy 2", "int fetch 1",
        "int season 5", "int safe 2", "int sure 1", "int common 2", "int pairs 1", "int orders 5", "int drops 4",
        "int reading 4", "int back 1", "int strengths 1", "int feints 1", "int kinds 1", "long odds 3", "int sheet 3",
        "int lose 1", "int put 3", "long cell 3", "int copy 5", "int tell 1", "int wave 1", "int as 2", "int trace 0",
        "int fault 0", "int many 1",
    };
    private static final String[] CONSTANTS = {
        "int FULL", "int NONE", "int OUTSIDE", "int STATE", "int UNKNOWN", "long LOST",
    };
    private static final Due DUE = new Due("FaceTest");

    public static void main(String[] args) throws IOException {
        constants();
        face();
        classesInside();
        String source = Files.readString(Path.of(SOURCE));
        String document = Files.readString(Path.of(DOC));
        faceAsWritten(source, document);
        partsAheadOfCalls(source, document);
        methodsAreShort(source);
        forbiddenWords(withoutCommentsAndTexts(source));
        DUE.end();
    }

    private static void constants() {
        DUE.is("UNKNOWN", WinnersLeave.UNKNOWN, -1);
        DUE.is("OUTSIDE", WinnersLeave.OUTSIDE, -2);
        DUE.is("STATE", WinnersLeave.STATE, -3);
        DUE.is("FULL", WinnersLeave.FULL, -4);
        DUE.is("NONE", WinnersLeave.NONE, -9);
        DUE.is("LOST", WinnersLeave.LOST, Long.MIN_VALUE);
    }

    private static void face() {
        Set<String> methods = new TreeSet<>();
        Set<String> publicNames = new TreeSet<>();
        Set<String> privateNames = new TreeSet<>();
        for (Method m : WinnersLeave.class.getDeclaredMethods()) {
            if (Modifier.isPrivate(m.getModifiers())) {
                privateNames.add(m.getName());
                DUE.is(m + " has at most seven parameters", m.getParameterCount() <= 7 ? 1 : 0, 1);
            } else {
                publicNames.add(m.getName());
                methods.add(m.getReturnType() + " " + m.getName() + " " + m.getParameterCount());
            }
        }
        same("methods", methods, FACE);
        privateNames.retainAll(publicNames);
        DUE.is("private methods named as public ones " + privateNames, privateNames.size(), 0);
        Set<String> fields = new TreeSet<>();
        for (Field f : WinnersLeave.class.getDeclaredFields()) {
            if (!Modifier.isPrivate(f.getModifiers())) {
                fields.add(f.getType() + " " + f.getName());
            }
        }
        same("constants", fields, CONSTANTS);
        DUE.is("constructors", WinnersLeave.class.getDeclaredConstructors().length, 1);
        DUE.is("public constructors", WinnersLeave.class.getConstructors().length, 1);
        DUE.is("final", Modifier.isFinal(WinnersLeave.class.getModifiers()) ? 1 : 0, 1);
    }

    /** Each line of the document's face stands in the source to the letter. */
    private static void faceAsWritten(String source, String document) {
        Matcher line = Pattern.compile("(?m)^ *(public .*(?:;|\\{))$").matcher(document);
        int lines = 0;
        while (line.find()) {
            String due = line.group(1).replace(");", ") {");
            DUE.is("'" + due + "' in the source", source.contains("\n" + indent(due) + due + "\n") ? 1 : 0, 1);
            lines++;
        }
        DUE.is("lines of the document's face", lines, FACE.length + 4);
    }

    private static String indent(String line) {
        return line.contains(" class ") ? "" : "    ";
    }

    /** "Ahead of the calls .. the interface says": behind that line and ahead of the next one, each of its calls. */
    private static void partsAheadOfCalls(String source, String document) {
        Matcher part = Pattern.compile("(?m)^Ahead of the calls (.*) the interface says: (.*)\\.$").matcher(document);
        int parts = 0;
        while (part.find()) {
            int from = source.indexOf("    // " + part.group(2) + "\n");
            int next = source.indexOf("    // ----", from + 1);
            for (String call : part.group(1).replaceAll("[` ]", "").split(",")) {
                int at = source.indexOf(" " + call + "(int");
                at = at < 0 ? source.indexOf(" " + call + "()") : at;
                DUE.is(call + " is behind " + part.group(2), from >= 0 && from < at && at < next ? 1 : 0, 1);
            }
            parts++;
        }
        DUE.is("parts of the interface", parts, 5);
    }

    private static void methodsAreShort(String source) {
        Matcher method = Pattern.compile("(?ms)^( +)(?:public|private)[^;=\n]*\\) \\{$.*?^\\1\\}$").matcher(source);
        int methods = 0;
        while (method.find()) {
            String first = method.group().lines().findFirst().orElse("").trim();
            DUE.is(first + " has at most sixty lines", method.group().lines().count() <= MOST_LINES ? 1 : 0, 1);
            methods++;
        }
        DUE.is("more methods than the face's are found", methods > FACE.length ? 1 : 0, 1);
    }

    private static void fewFields(Class<?> of) {
        long fields = Arrays.stream(of.getDeclaredFields()).filter(f -> !Modifier.isStatic(f.getModifiers())).count();
        DUE.is(of + " has at most twenty fields", fields <= MOST_FIELDS ? 1 : 0, 1);
    }

    private static void same(String what, Set<String> got, String[] due) {
        Set<String> dueSet = Set.of(due);
        DUE.is(what + " " + got, got.equals(dueSet) ? 1 : 0, 1);
    }

    private static void classesInside() {
        Class<?>[] inside = WinnersLeave.class.getDeclaredClasses();
        DUE.is("at most twelve classes", inside.length <= 11 ? 1 : 0, 1);
        fewFields(WinnersLeave.class);
        for (Class<?> c : inside) {
            fewFields(c);
            DUE.is(c + " is static", Modifier.isStatic(c.getModifiers()) ? 1 : 0, 1);
            DUE.is(c + " is not public", Modifier.isPublic(c.getModifiers()) ? 1 : 0, 0);
            for (Method m : c.getDeclaredMethods()) {
                boolean asPublic = Arrays.stream(FACE).anyMatch(call -> call.split(" ")[1].equals(m.getName()));
                DUE.is(m + " is named as a public one", asPublic ? 1 : 0, 0);
                DUE.is(m + " has at most seven parameters", m.getParameterCount() <= 7 ? 1 : 0, 1);
            }
            for (Field f : c.getDeclaredFields()) {
                boolean kept = Modifier.isStatic(f.getModifiers()) && !Modifier.isFinal(f.getModifiers());
                DUE.is(f + " is static and changes", kept ? 1 : 0, 0);
            }
        }
    }

    private static String withoutCommentsAndTexts(String source) {
        return source.replaceAll("(?s)/\\*.*?\\*/", " ").replaceAll("//.*", " ").replaceAll("\"[^\"\n]*\"", "\"\"");
    }

    private static void forbiddenWords(String source) {
        String[] words = {"throws?", "try", "catch", "synchronized", "assert", "package", "public\\s+static\\s+void",
            "protected", "Exact", "System\\.(?!arraycopy\\b)", "import\\s+(?!java\\.util\\.Arrays;)", "volatile", "Object"};
        for (String word : words) {
            Matcher m = Pattern.compile("\\b" + word + "|->|::").matcher(source);
            DUE.is("'" + word + "' in the source", m.find() ? 1 : 0, 0);
        }
    }
}
