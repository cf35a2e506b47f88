import java.io.IOException;
import java.lang.reflect.Field;
import java.lang.reflect.Method;
import java.lang.reflect.Modifier;
import java.nio.file.Files;
import java.nio.file.Path;
import java.util.HashSet;
import java.util.List;
import java.util.Set;
import java.util.TreeSet;
import java.util.regex.Matcher;
import java.util.regex.Pattern;

/** The public face of the document, and those rules of LANGUAGE.md that a test can see. */
public final class FaceTest {
    private static final String[] CALLS = {
        "person 3", "told 2", "as 2", "turns 2", "set 3", "holds 2", "apart 2", "near 2", "lifetime 1", "deal 1",
        "seed 1", "free 2", "frees 1", "soonest 1", "child 2", "forget 0", "dealing 1", "christen 0", "yields 1",
        "years 1", "behind 2", "ends 0", "stays 2", "line 1", "fine 0", "feed 3", "trim 1", "text 0", "textTold 2",
        "why 1", "sheet 3", "mark 3", "pour 1", "reads 1", "copy 5", "lay 3", "ask 2", "item 2", "rest 2", "tell 1",
        "check 1", "keep 0", "back 0", "count 1"};
    private static final Set<String> CONSTANTS =
        Set.of("BAD", "NO", "FULL", "NONE", "NOTHING", "KIND", "INDEX", "SIZE");

    public static void main(String[] args) throws IOException {
        constants();
        members();
        nestedClasses();
        source();
        Due.end();
    }

    private static void constants() {
        Due.is("BAD", NotWorn.BAD, Due.BAD);
        Due.is("NO", NotWorn.NO, Due.NO);
        Due.is("FULL", NotWorn.FULL, Due.FULL);
        Due.is("NONE", NotWorn.NONE, Due.NONE);
        Due.is("NOTHING", NotWorn.NOTHING, Due.NOTHING);
        Due.is("KIND", NotWorn.KIND, Due.KIND);
        Due.is("INDEX", NotWorn.INDEX, Due.INDEX);
        Due.is("SIZE", NotWorn.SIZE, Due.SIZE);
    }

    private static void members() {
        Due.holds("public and final", Modifier.isPublic(NotWorn.class.getModifiers())
            && Modifier.isFinal(NotWorn.class.getModifiers()));
        Due.is("constructors", NotWorn.class.getDeclaredConstructors().length, 1);
        Set<String> due = new TreeSet<>(List.of(CALLS));
        Set<String> seen = new TreeSet<>();
        for (Method method : NotWorn.class.getDeclaredMethods()) {
            if (Modifier.isPrivate(method.getModifiers())) {
                continue;
            }
            Due.holds(method + " is public, of the object, and answers an int",
                method.getModifiers() == Modifier.PUBLIC && method.getReturnType() == int.class);
            for (Class<?> parameter : method.getParameterTypes()) {
                Due.holds(method + " takes ints", parameter == int.class);
            }
            seen.add(method.getName() + " " + method.getParameterCount());
        }
        Due.holds("the calls are " + due + ", seen " + seen, due.equals(seen));
        for (Field field : NotWorn.class.getDeclaredFields()) {
            boolean open = !Modifier.isPrivate(field.getModifiers());
            Due.holds("field " + field, open == CONSTANTS.contains(field.getName()));
            staticFieldsAreFinal(field);
        }
    }

    private static void nestedClasses() {
        Set<String> names = new HashSet<>();
        for (String call : CALLS) {
            names.add(call.substring(0, call.indexOf(' ')));
        }
        Due.holds("at most twelve classes", NotWorn.class.getDeclaredClasses().length < 12);
        for (Class<?> nested : NotWorn.class.getDeclaredClasses()) {
            Due.holds(nested + " is static", Modifier.isStatic(nested.getModifiers()));
            Due.holds(nested + " is not public", !Modifier.isPublic(nested.getModifiers()));
            int fields = 0;
            for (Field field : nested.getDeclaredFields()) {
                staticFieldsAreFinal(field);
                fields += Modifier.isStatic(field.getModifiers()) ? 0 : 1;
            }
            Due.holds(nested + " has some twenty fields at most", fields <= 20);
            for (Method method : nested.getDeclaredMethods()) {
                Due.holds(method + " bears no name of the face", !names.contains(method.getName()));
                Due.holds(method + " takes seven at most", method.getParameterCount() <= 7);
            }
        }
        for (Method method : NotWorn.class.getDeclaredMethods()) {
            boolean open = Modifier.isPublic(method.getModifiers());
            Due.holds(method + " bears no name of the face", open == names.contains(method.getName()));
        }
    }

    private static void staticFieldsAreFinal(Field field) {
        if (Modifier.isStatic(field.getModifiers())) {
            Due.holds(field + " is final", Modifier.isFinal(field.getModifiers()));
        }
    }

    private static void source() throws IOException {
        String whole = Files.readString(Path.of("src/main/java/NotWorn.java"));
        for (int i = 0; i < whole.length(); i++) {
            if (whole.charAt(i) > 126) {
                Due.holds("plain signs alone, at " + i, false);
            }
        }
        String code = whole.replaceAll("(?s)/\\*.*?\\*/", " ").replaceAll("//[^\n]*", " ")
            .replaceAll("\"[^\"\n]*\"", "\"\"").replaceAll("'[^'\n]'", "' '");
        String[] words = {"package", "import", "throw", "throws", "try", "catch", "finally", "synchronized", "assert",
            "volatile", "native", "protected", "yield", "var", "Object", "Thread", "Random", "Exception", "NaN",
            "hashCode", "toString", "double", "float"};
        for (String word : words) {
            Due.holds("no " + word, !Pattern.compile("\\b" + word + "\\b").matcher(code).find());
        }
        Due.holds("no lambda", !code.contains("->"));
        Due.holds("no method reference", !code.contains("::"));
        Matcher library = Pattern.compile("\\b(System|Math|Integer|Long|Arrays)\\.(\\w+)").matcher(code);
        Set<String> allowed = Set.of("System.arraycopy", "Math.min", "Math.max", "Integer.bitCount");
        while (library.find()) {
            Due.holds("library: " + library.group(), allowed.contains(library.group()));
        }
        methodsKeepSmall(whole.split("\n"));
    }

    /**
     * Members stand at one or two steps of indentation, so a method ends at the first brace under its head. All calls
     * of a run live in one room, so constructors alone make objects.
     */
    private static void methodsKeepSmall(String[] lines) {
        Pattern head = Pattern.compile("^( {4}| {8})[A-Za-z][^=;]*\\) \\{$");
        for (int i = 0; i < lines.length; i++) {
            Matcher matcher = head.matcher(lines[i]);
            if (!matcher.matches()) {
                continue;
            }
            int end = i;
            while (end < lines.length && !lines[end].equals(matcher.group(1) + "}")) {
                end++;
            }
            Due.holds("sixty lines at most: " + lines[i].trim(), end - i <= 60);
            boolean makes = String.join(" ", List.of(lines).subList(i, end)).matches(".*\\bnew .*");
            Due.holds("makes no object: " + lines[i].trim(), !makes || isConstructor(lines[i]));
        }
    }

    private static boolean isConstructor(String head) {
        return head.trim().matches("(public )?[A-Z]\\w*\\(.*");
    }
}
