import java.lang.reflect.Constructor;
import java.lang.reflect.Field;
import java.lang.reflect.Method;
import java.lang.reflect.Modifier;
import java.nio.file.Files;
import java.nio.file.Path;
import java.util.HashSet;
import java.util.Set;
import java.util.TreeSet;
import java.util.regex.Matcher;
import java.util.regex.Pattern;

/** The public face as the document tells it, and those rules of LANGUAGE.md that a machine can see. */
public final class FaceTest {
    private static final Path DOCUMENT = Path.of("../shared/DOC.md");

    public static void main(String[] args) throws Exception {
        String face = faceOfDocument();
        constants(face);
        methods(face);
        nested();
        source();
        Due.end("FaceTest");
    }

    /** What stands in the document under "The public face". */
    private static String faceOfDocument() throws Exception {
        Matcher block = Pattern.compile("(?s)## The public face\\s+```java\n(.*?)```").matcher(Files.readString(DOCUMENT));
        boolean found = block.find();
        Due.holds("the document has a face", found);
        return found ? block.group(1) : "";
    }

    /** A method without the names of what it takes, so that it can be held against the class. */
    private static Set<String> methodsOf(String face) {
        Set<String> told = new TreeSet<>();
        Matcher methods = Pattern.compile("public (\\w+ \\w+\\()(.*?)\\);").matcher(face);
        while (methods.find()) {
            told.add(methods.group(1) + methods.group(2).replaceAll(" \\w+(,|$)", "$1").replace(" ", "") + ")");
        }
        Due.is("methods of the document's face", told.size(), 28);
        return told;
    }

    private static void constantsAreAsTold(String face) throws Exception {
        Matcher line = Pattern.compile("public static final int (.*?);").matcher(face);
        Due.holds("the face has constants", line.find());
        for (String one : line.group(1).split(", ")) {
            String[] parts = one.split(" = ");
            Due.is(parts[0], CrossTable.class.getField(parts[0]).getInt(null), Integer.parseInt(parts[1]));
        }
    }

    private static void constants(String face) throws Exception {
        constantsAreAsTold(face);
        Due.is("UNKNOWN", CrossTable.UNKNOWN, -1);
        Due.is("OUTSIDE", CrossTable.OUTSIDE, -2);
        Due.is("STATE", CrossTable.STATE, -3);
        Due.is("FULL", CrossTable.FULL, -4);
        Due.is("NONE", CrossTable.NONE, -9);
        Set<String> open = new TreeSet<>();
        for (Field field : CrossTable.class.getDeclaredFields()) {
            boolean isStatic = Modifier.isStatic(field.getModifiers());
            Due.holds(field.getName() + " is final if static", !isStatic || Modifier.isFinal(field.getModifiers()));
            if (!Modifier.isPrivate(field.getModifiers())) {
                open.add(field.getName());
            }
        }
        Due.same("open fields", open.toString(), "[FULL, NONE, OUTSIDE, STATE, UNKNOWN]");
    }

    private static void methods(String face) {
        int modifiers = CrossTable.class.getModifiers();
        Due.holds("public final class", Modifier.isPublic(modifiers) && Modifier.isFinal(modifiers));
        Constructor<?>[] made = CrossTable.class.getDeclaredConstructors();
        Due.holds("one public constructor", made.length == 1 && Modifier.isPublic(made[0].getModifiers()) && made[0].getParameterCount() == 0);
        Set<String> open = new TreeSet<>();
        Set<String> openNames = new HashSet<>();
        for (Method method : CrossTable.class.getDeclaredMethods()) {
            if (!Modifier.isPrivate(method.getModifiers())) {
                Due.is(method.getName() + " is public, no more", method.getModifiers(), Modifier.PUBLIC);
                String told = method.toGenericString().replace("public ", "").replace("CrossTable.", "");
                open.add(told);
                openNames.add(method.getName());
            }
        }
        Due.same("open methods", open.toString(), methodsOf(face).toString());
        for (Class<?> inside : CrossTable.class.getDeclaredClasses()) {
            for (Method method : inside.getDeclaredMethods()) {
                Due.holds(method + " has a name of its own", !openNames.contains(method.getName()));
            }
        }
        for (Method method : CrossTable.class.getDeclaredMethods()) {
            Due.holds(method + " has a name of its own", !Modifier.isPrivate(method.getModifiers()) || !openNames.contains(method.getName()));
        }
    }

    private static void nested() {
        Class<?>[] inside = CrossTable.class.getDeclaredClasses();
        Due.holds("twelve classes at most", inside.length < 12);
        for (Class<?> one : inside) {
            Due.holds(one + " is static", Modifier.isStatic(one.getModifiers()));
            Due.holds(one + " is not public", !Modifier.isPublic(one.getModifiers()) && !Modifier.isProtected(one.getModifiers()));
            Due.holds(one + " has twenty fields at most", one.getDeclaredFields().length <= 20);
            for (Method method : one.getDeclaredMethods()) {
                Due.holds(method + " takes seven at most", method.getParameterCount() <= 7);
            }
        }
    }

    private static void source() throws Exception {
        String all = Files.readString(Path.of("src/main/java/CrossTable.java"));
        Due.holds("signs are 1 to 127", all.chars().allMatch(c -> c > 0 && c < 128));
        String code = all.replaceAll("(?s)/\\*.*?\\*/", "").replaceAll("//[^\n]*", "");
        for (String word : new String[] {"throw", "throws", "try", "catch", "synchronized", "assert", "protected", "package", "native"}) {
            Due.holds("no " + word, !Pattern.compile("\\b" + word + "\\b").matcher(code).find());
        }
        Due.holds("no lambda or method reference", !code.contains("->") && !code.contains("::"));
        Set<String> calls = new TreeSet<>();
        Matcher library = Pattern.compile("\\b(System|Arrays|Integer|Long|Math|String|List|ArrayList|StringBuilder)\\.(\\w+)").matcher(code);
        while (library.find()) {
            calls.add(library.group());
        }
        Due.same("library", calls.toString(),
                "[Arrays.fill, Integer.bitCount, Long.bitCount, Math.abs, Math.max, System.arraycopy]");
        shortMethods(code);
    }

    /** A member's body starts at four or eight spaces and ends with a brace at the same depth. */
    private static void shortMethods(String code) {
        String[] lines = code.split("\n");
        int longest = 0;
        for (String depth : new String[] {"    ", "        "}) {
            int from = -1;
            for (int i = 0; i < lines.length; i++) {
                if (lines[i].matches(depth + "\\w.*\\) \\{")) {
                    from = i;
                }
                if (from >= 0 && lines[i].equals(depth + "}")) {
                    longest = Math.max(longest, i - from + 1);
                    from = -1;
                }
            }
        }
        Due.holds("methods have some sixty lines at most: " + longest, longest <= 60);
    }
}
