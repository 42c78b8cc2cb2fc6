import java.lang.reflect.Constructor;
import java.lang.reflect.Field;
import java.lang.reflect.Method;
import java.lang.reflect.Modifier;
import java.nio.file.Files;
import java.nio.file.Path;
import java.util.Arrays;
import java.util.TreeSet;
import java.util.regex.Matcher;
import java.util.regex.Pattern;

/** ../shared/LANGUAGE.md as far as a look at the text and at the class tells it, and the face of ../shared/DOC.md. */
public final class RulesTest {
    private static final Due DUE = new Due();
    private static final String[] WORDS = {"throw", "throws", "try", "catch", "synchronized", "assert", "volatile", "transient",
        "protected", "native", "strictfp", "equals", "hashCode", "toString", "instanceof", "super", "var", "yield"};
    private static final String[] SIGNS = {"->", "::", "Exact", "System.out", "System.nano", "System.current", "Random",
        "Thread", "String.format", "@"};

    public static void main(String[] args) throws Exception {
        faceIsAsTold();
        innerClassesAreHidden();
        String source = Files.readString(Path.of("src/main/java/PalletRounds.java"));
        wordsAreAllowed(source);
        libraryIsAllowed(source);
        methodsAreShort(source);
        DUE.end();
    }

    private static String shapeOf(Method m) {
        StringBuilder s = new StringBuilder(m.getReturnType().getName()).append(' ').append(m.getName()).append('(');
        Class<?>[] types = m.getParameterTypes();
        for (int i = 0; i < types.length; i++) s.append(i == 0 ? "" : ", ").append(types[i].getName());
        return s.append(')').toString();
    }

    private static void faceIsAsTold() throws Exception {
        String doc = Files.readString(Path.of("../shared/DOC.md"));
        TreeSet<String> want = new TreeSet<>();
        Matcher told = Pattern.compile("public (int|long) (\\w+)\\(([^)]*)\\);").matcher(doc);
        while (told.find()) {
            String types = told.group(3).replaceAll("(int|long) \\w+", "$1");
            want.add(told.group(1) + " " + told.group(2) + "(" + types + ")");
        }
        TreeSet<String> got = new TreeSet<>();
        for (Method m : PalletRounds.class.getDeclaredMethods()) {
            if (Modifier.isPublic(m.getModifiers())) {
                got.add(shapeOf(m));
            } else if (!m.isSynthetic()) {
                DUE.is("1: " + m.getName() + " is private", Modifier.isPrivate(m.getModifiers()) ? 1 : 0, 1);
            }
        }
        DUE.is("the face: 38 methods are told", want.size(), 38);
        DUE.is("the face " + got + " is " + want, got.equals(want) ? 1 : 0, 1);
        Constructor<?>[] made = PalletRounds.class.getDeclaredConstructors();
        DUE.is("one constructor", made.length, 1);
        DUE.is("it is public", Modifier.isPublic(made[0].getModifiers()) ? made[0].getParameterCount() : 1, 0);
        DUE.is("the class is final", Modifier.isFinal(PalletRounds.class.getModifiers()) ? 1 : 0, 1);
        String[] constants = {"BAD", "FULL", "NO", "NONE", "STATE"};
        for (Field f : PalletRounds.class.getDeclaredFields()) {
            boolean told2 = Arrays.binarySearch(constants, f.getName()) >= 0;
            DUE.is("1: " + f.getName(), Modifier.isPrivate(f.getModifiers()) ? 0 : 1, told2 ? 1 : 0);
        }
        long[] values = {PalletRounds.NONE, PalletRounds.BAD, PalletRounds.STATE, PalletRounds.FULL, PalletRounds.NO};
        long[] due = {-1, -2, -3, -4, -4611686018427387904L};
        for (int i = 0; i < 5; i++) DUE.is("a constant", values[i], due[i]);
    }

    private static void innerClassesAreHidden() {
        TreeSet<String> face = new TreeSet<>();
        for (Method m : PalletRounds.class.getDeclaredMethods()) {
            if (Modifier.isPublic(m.getModifiers())) face.add(m.getName());
        }
        Class<?>[] inside = PalletRounds.class.getDeclaredClasses();
        DUE.is("11: at most twelve classes", inside.length <= 11 ? 1 : 0, 1);
        for (Class<?> c : inside) {
            int flags = c.getModifiers();
            DUE.is("2: " + c + " is static and hidden",
                Modifier.isStatic(flags) && !Modifier.isPublic(flags) && !Modifier.isProtected(flags) ? 1 : 0, 1);
            int fields = 0;
            for (Field f : c.getDeclaredFields()) {
                if (!Modifier.isStatic(f.getModifiers())) fields++;
                else DUE.is("5: " + f + " is final", Modifier.isFinal(f.getModifiers()) ? 1 : 0, 1);
            }
            DUE.is("11: at most twenty fields in " + c, fields <= 20 ? 1 : 0, 1);
            for (Method m : c.getDeclaredMethods()) {
                DUE.is("1: " + m + " bears the name of a public one", face.contains(m.getName()) ? 1 : 0, 0);
                DUE.is("11: " + m + " takes at most seven", m.getParameterCount() <= 7 ? 1 : 0, 1);
            }
        }
    }

    private static String withoutComments(String source) {
        return source.replaceAll("(?s)/\\*.*?\\*/", " ").replaceAll("//[^\n]*", " ");
    }

    /** Of the library's classes some static functions are listed, and no constants (the greatest long, for one). */
    private static void libraryIsAllowed(String source) {
        TreeSet<String> listed = new TreeSet<>(Arrays.asList("Arrays.fill", "Arrays.copyOf", "Arrays.copyOfRange",
            "System.arraycopy", "List.of"));
        for (String name : new String[] {"compare", "max", "min", "abs", "bitCount", "floorDiv", "floorMod"}) {
            for (String home : new String[] {"Integer", "Long", "Math"}) listed.add(home + "." + name);
        }
        Pattern ofLibrary = Pattern.compile("\\b(Arrays|System|Integer|Long|Short|Byte|Math|String|List)\\.\\w+");
        Matcher used = ofLibrary.matcher(withoutComments(source));
        while (used.find()) DUE.is("4: " + used.group() + " is listed", listed.contains(used.group()) ? 1 : 0, 1);
    }

    private static void wordsAreAllowed(String source) {
        String code = withoutComments(source);
        for (String word : WORDS) {
            DUE.is("'" + word + "' stands in the program", Pattern.compile("\\b" + word + "\\b").matcher(code).find() ? 1 : 0, 0);
        }
        for (String sign : SIGNS) DUE.is("'" + sign + "' stands in the program", code.contains(sign) ? 1 : 0, 0);
        Matcher imports = Pattern.compile("import ([^;]*);").matcher(code);
        while (imports.find()) DUE.is("4: " + imports.group(1), imports.group(1).equals("java.util.Arrays") ? 1 : 0, 1);
        DUE.is("no package line", Pattern.compile("^\\s*package\\b").matcher(code).find() ? 1 : 0, 0);
        for (int i = 0; i < source.length(); i++) {
            if (source.charAt(i) > 126) DUE.is("4: a sign at " + i, source.charAt(i), 0);
        }
    }

    private static void methodsAreShort(String source) {
        String[] lines = source.split("\n");
        int begin = -1;
        int depth = 0;
        for (int i = 0; i < lines.length; i++) {
            boolean opens = lines[i].matches("( {4}| {8})(?!private static final class|private final|static final).*\\) \\{");
            if (opens && begin < 0) {
                begin = i;
                depth = lines[i].indexOf(lines[i].trim());
            }
            if (begin >= 0 && lines[i].equals(" ".repeat(depth) + "}")) {
                DUE.is("11: lines of " + lines[begin].trim(), i - begin <= 60 ? 1 : 0, 1);
                begin = -1;
            }
        }
    }
}
