import java.lang.reflect.Constructor;
import java.lang.reflect.Field;
import java.lang.reflect.Method;
import java.lang.reflect.Modifier;
import java.nio.file.Files;
import java.nio.file.Path;
import java.util.HashSet;
import java.util.Set;
import java.util.TreeSet;
import java.util.regex.Matcher;
import java.util.regex.Pattern;

/** The public face, and those rules of LANGUAGE.md that a machine can see. */
public final class FaceTest {
    private static final String[] METHODS = {
        "int again(int)", "int add(int,int,int)", "int along(int,int)", "int best(int)", "int cell(int,int)",
        "int change(int,int)", "int count(int)", "int drawn(int)", "int drill(int,int)", "int drop(int)",
        "int entry(int,int)", "int fault()", "int hidden(int)", "int judge(int,long)", "int keep(int)",
        "int key(int,int)", "int lost(int,int,boolean)", "int plan()", "int see(int,int,int)", "int share(int,boolean)",
        "int total()", "int undo()", "int unsee()", "int wipe()", "int word(int)", "int would(int,int,int,int)",
        "int write(int)", "long seed(long)"};

    public static void main(String[] args) throws Exception {
        constants();
        methods();
        nested();
        source();
        Due.end("FaceTest");
    }

    private static void constants() {
        Due.is("UNKNOWN", CrossTable.UNKNOWN, -1);
        Due.is("OUTSIDE", CrossTable.OUTSIDE, -2);
        Due.is("STATE", CrossTable.STATE, -3);
        Due.is("FULL", CrossTable.FULL, -4);
        Due.is("NONE", CrossTable.NONE, -9);
        Set<String> open = new TreeSet<>();
        for (Field field : CrossTable.class.getDeclaredFields()) {
            boolean isStatic = Modifier.isStatic(field.getModifiers());
            Due.holds(field.getName() + " is final if static", !isStatic || Modifier.isFinal(field.getModifiers()));
            if (!Modifier.isPrivate(field.getModifiers())) {
                open.add(field.getName());
            }
        }
        Due.same("open fields", open.toString(), "[FULL, NONE, OUTSIDE, STATE, UNKNOWN]");
    }

    private static void methods() {
        int modifiers = CrossTable.class.getModifiers();
        Due.holds("public final class", Modifier.isPublic(modifiers) && Modifier.isFinal(modifiers));
        Constructor<?>[] made = CrossTable.class.getDeclaredConstructors();
        Due.holds("one public constructor", made.length == 1 && Modifier.isPublic(made[0].getModifiers()) && made[0].getParameterCount() == 0);
        Set<String> open = new TreeSet<>();
        Set<String> openNames = new HashSet<>();
        for (Method method : CrossTable.class.getDeclaredMethods()) {
            if (!Modifier.isPrivate(method.getModifiers())) {
                Due.is(method.getName() + " is public, no more", method.getModifiers(), Modifier.PUBLIC);
                String told = method.toGenericString().replace("public ", "").replace("CrossTable.", "");
                open.add(told);
                openNames.add(method.getName());
            }
        }
        Due.same("open methods", open.toString(), new TreeSet<>(Set.of(METHODS)).toString());
        for (Class<?> inside : CrossTable.class.getDeclaredClasses()) {
            for (Method method : inside.getDeclaredMethods()) {
                Due.holds(method + " has a name of its own", !openNames.contains(method.getName()));
            }
        }
        for (Method method : CrossTable.class.getDeclaredMethods()) {
            Due.holds(method + " has a name of its own", !Modifier.isPrivate(method.getModifiers()) || !openNames.contains(method.getName()));
        }
    }

    private static void nested() {
        Class<?>[] inside = CrossTable.class.getDeclaredClasses();
        Due.holds("twelve classes at most", inside.length < 12);
        for (Class<?> one : inside) {
            Due.holds(one + " is static", Modifier.isStatic(one.getModifiers()));
            Due.holds(one + " is not public", !Modifier.isPublic(one.getModifiers()) && !Modifier.isProtected(one.getModifiers()));
            Due.holds(one + " has twenty fields at most", one.getDeclaredFields().length <= 20);
            for (Method method : one.getDeclaredMethods()) {
                Due.holds(method + " takes seven at most", method.getParameterCount() <= 7);
            }
        }
    }

    private static void source() throws Exception {
        String all = Files.readString(Path.of("src/main/java/CrossTable.java"));
        Due.holds("signs are 1 to 127", all.chars().allMatch(c -> c > 0 && c < 128));
        String code = all.replaceAll("(?s)/\\*.*?\\*/", "").replaceAll("//[^\n]*", "");
        for (String word : new String[] {"throw", "throws", "try", "catch", "synchronized", "assert", "protected", "package", "native"}) {
            Due.holds("no " + word, !Pattern.compile("\\b" + word + "\\b").matcher(code).find());
        }
        Due.holds("no lambda or method reference", !code.contains("->") && !code.contains("::"));
        Set<String> calls = new TreeSet<>();
        Matcher library = Pattern.compile("\\b(System|Arrays|Integer|Long|Math|String|List|ArrayList|StringBuilder)\\.(\\w+)").matcher(code);
        while (library.find()) {
            calls.add(library.group());
        }
        Due.same("library", calls.toString(),
                "[Arrays.fill, Integer.bitCount, Long.bitCount, Math.abs, Math.max, System.arraycopy]");
        shortMethods(code);
    }

    /** A member's body starts at four or eight spaces and ends with a brace at the same depth. */
    private static void shortMethods(String code) {
        String[] lines = code.split("\n");
        int longest = 0;
        for (String depth : new String[] {"    ", "        "}) {
            int from = -1;
            for (int i = 0; i < lines.length; i++) {
                if (lines[i].matches(depth + "\\w.*\\) \\{")) {
                    from = i;
                }
                if (from >= 0 && lines[i].equals(depth + "}")) {
                    longest = Math.max(longest, i - from + 1);
                    from = -1;
                }
            }
        }
        Due.holds("methods have some sixty lines at most: " + longest, longest <= 60);
    }
}
