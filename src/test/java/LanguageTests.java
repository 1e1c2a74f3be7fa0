import java.io.IOException;
import java.lang.reflect.Constructor;
import java.lang.reflect.Field;
import java.lang.reflect.Method;
import java.lang.reflect.Modifier;
import java.nio.file.Files;
import java.nio.file.Path;
import java.util.Arrays;
import java.util.List;
import java.util.Set;
import java.util.TreeSet;
import java.util.regex.Matcher;
import java.util.regex.Pattern;
import java.util.stream.Collectors;

/** The rules of LANGUAGE.md, as far as a reading of the source and the class can tell. */
public final class LanguageTests {
    private static final Path SOURCE = Path.of("src/main/java/LeashedNames.java");
    private static final Path DOCUMENT = Path.of("../shared/DOC.md");

    private final Check check;
    private final String code;

    private LanguageTests(Check check) throws IOException {
        this.check = check;
        this.code = bare(Files.readString(SOURCE));
    }

    public static void main(String[] args) throws IOException {
        Check check = new Check("LanguageTests");
        LanguageTests tests = new LanguageTests(check);
        check.begin("rule 1, the face");
        tests.face();
        check.finish();
        check.begin("rules 2 to 6, words and signs");
        tests.words();
        check.finish();
        check.begin("rule 4, the library");
        tests.library();
        check.finish();
        check.begin("rule 11, sizes");
        tests.sizes();
        check.finish();
        check.begin("rule 12, objects");
        tests.objects();
        check.finish();
        check.close();
    }

    /** Without comments, and with nothing left of texts and signs. */
    private static String bare(String source) {
        return source.replaceAll("(?s)/\\*.*?\\*/", "").replaceAll("//[^\n]*", "")
                .replaceAll("\"[^\"\n]*\"", "\"\"").replaceAll("'[^'\n]+'", "' '");
    }

    private void none(String what, String pattern) {
        Matcher found = Pattern.compile(pattern).matcher(code);
        check.due(what, found.find() ? 1 : 0, 0);
    }

    private static String told(Method m) {
        return m.getReturnType().getName() + " " + m.getName() + Arrays.stream(m.getParameterTypes())
                .map(Class::getName).collect(Collectors.joining(",", "(", ")"));
    }

    private void face() throws IOException {
        Set<String> want = new TreeSet<>();
        String document = Files.readString(DOCUMENT);
        String block = document.substring(document.indexOf("```java"), document.indexOf("## Terms"));
        Matcher m = Pattern.compile("public (int|long) (\\w+)\\(([^)]*)\\);").matcher(block);
        while (m.find()) {
            want.add(m.group(1) + " " + m.group(2) + "(" + m.group(3).replaceAll(" \\w+(,|$)", "$1").replace(" ", "") + ")");
        }
        check.due("methods told", want.size(), 68);
        Set<String> got = new TreeSet<>();
        Set<String> publicNames = new TreeSet<>();
        Set<String> otherNames = new TreeSet<>();
        for (Method method : LeashedNames.class.getDeclaredMethods()) {
            if (Modifier.isPublic(method.getModifiers())) {
                got.add(told(method));
                publicNames.add(method.getName());
                check.due(method + " is static", Modifier.isStatic(method.getModifiers()) ? 1 : 0, 0);
            } else {
                otherNames.add(method.getName());
                check.due(method + " is private", Modifier.isPrivate(method.getModifiers()) ? 1 : 0, 1);
            }
        }
        if (!want.equals(got)) {
            check.wrong("the face is " + got + ", due is " + want);
        }
        for (Field f : LeashedNames.class.getDeclaredFields()) {
            boolean isNone = f.getName().equals("NONE");
            check.due(f + " is private", Modifier.isPrivate(f.getModifiers()) ? 1 : 0, isNone ? 0 : 1);
            checkStatic(f);
        }
        for (Class<?> c : LeashedNames.class.getDeclaredClasses()) {
            check.due(c + " is static", Modifier.isStatic(c.getModifiers()) ? 1 : 0, 1);
            check.due(c + " is public", c.getModifiers() & (Modifier.PUBLIC | Modifier.PROTECTED), 0);
            for (Method method : c.getDeclaredMethods()) {
                otherNames.add(method.getName());
            }
            for (Field f : c.getDeclaredFields()) {
                checkStatic(f);
            }
        }
        otherNames.retainAll(publicNames);
        check.due("private methods with a public one's name " + otherNames, otherNames.size(), 0);
        check.due("constructors", LeashedNames.class.getDeclaredConstructors().length, 1);
        Constructor<?> made = LeashedNames.class.getDeclaredConstructors()[0];
        check.due("public", made.getModifiers(), Modifier.PUBLIC);
        check.due("final", LeashedNames.class.getModifiers(), Modifier.PUBLIC | Modifier.FINAL);
    }

    private void checkStatic(Field f) {
        if (Modifier.isStatic(f.getModifiers())) {
            boolean plain = Set.of("int", "long", "boolean", "char", "java.lang.String").contains(f.getType().getName());
            check.due(f + " is a constant", Modifier.isFinal(f.getModifiers()) && plain ? 1 : 0, 1);
        }
    }

    private void words() {
        none("a word that is ruled out", "\\b(throws?|try|catch|finally|synchronized|assert|package|instanceof|interface"
                + "|record|enum|abstract|extends|implements|native|volatile|transient|strictfp|yield|goto|var|float|double"
                + "|Object|Character|Byte|Short|Float|Double|Boolean|Exception|Error|Thread|Runtime|Random)\\b");
        none("a lambda or a method reference", "->|::");
        none("an annotation", "@");
        none("a static block", "static\\s*\\{");
        none("a text joined by +", "\"\"\\s*\\+|\\+\\s*\"\"");
        none("an exact function", "\\w+Exact\\b");
        none("a local class", "(?m)^ {8,}(static |final )*class ");
        none("an anonymous class", "new \\w+\\([^)]*\\)\\s*\\{");
        check.due("signs beyond 127", code.chars().filter(c -> c > 127).count(), 0);
    }

    private void library() {
        Matcher imports = Pattern.compile("import ([\\w.]+);").matcher(code);
        while (imports.find()) {
            check.due(imports.group(1), imports.group(1).equals("java.util.Arrays") ? 1 : 0, 1);
        }
        Matcher calls = Pattern.compile("\\b(Arrays|System|Integer|Long|Math|String|StringBuilder)\\.(\\w+)").matcher(code);
        List<String> fine = List.of("Arrays.fill", "System.arraycopy", "Integer.bitCount", "Math.max", "Math.min");
        while (calls.find()) {
            String call = calls.group(1) + "." + calls.group(2);
            check.due(call, fine.contains(call) ? 1 : 0, 1);
        }
    }

    private void sizes() {
        int classes = LeashedNames.class.getDeclaredClasses().length + 1;
        check.due("twelve classes at most: " + classes, classes <= 12 ? 1 : 0, 1);
        for (Class<?> c : LeashedNames.class.getDeclaredClasses()) {
            long fields = Arrays.stream(c.getDeclaredFields()).filter(f -> !Modifier.isStatic(f.getModifiers())).count();
            check.due("twenty fields at most: " + c, fields <= 20 ? 1 : 0, 1);
            for (Method m : c.getDeclaredMethods()) {
                check.due("seven parameters at most: " + m, m.getParameterCount() <= 7 ? 1 : 0, 1);
            }
        }
        String[] lines = code.split("\n");
        int start = 0;
        for (int i = 0; i < lines.length; i++) {
            if (lines[i].matches("( {4}| {8})(public|private) .*\\) \\{")) {
                start = i;
            }
            if (lines[i].matches("( {4}| {8})\\}")) {
                check.due("a method of sixty lines at most, from line " + start, i - start < 60
                        || lines[start].contains("class") ? 1 : 0, 1);
                start = i;
            }
        }
    }

    /** All is made by constructors and in fields, so that no call but a new object takes room. */
    private void objects() {
        boolean inConstructor = false;
        for (String line : code.split("\n")) {
            if (line.contains("public LeashedNames()")) {
                inConstructor = true;
            } else if (line.equals("    }")) {
                inConstructor = false;
            }
            boolean inField = line.matches(" {8}private final [\\w\\[\\]]+ \\w+ = new .*;");
            boolean makes = Pattern.compile("\\bnew\\b|\\.clone\\(|copyOf|\\bList\\b|StringBuilder").matcher(line).find();
            if (makes) {
                check.due(line, inConstructor || inField ? 1 : 0, 1);
            }
        }
    }
}
