import java.lang.reflect.Constructor;
import java.lang.reflect.Field;
import java.lang.reflect.Method;
import java.lang.reflect.Modifier;
import java.nio.file.Files;
import java.nio.file.Path;
import java.util.ArrayList;
import java.util.Arrays;
import java.util.List;
import java.util.TreeSet;
import java.util.regex.Matcher;
import java.util.regex.Pattern;

/** The public face, and those rules of LANGUAGE.md that can be seen without reading the sense. */
public final class LanguageTest {
    private static final String SOURCE = "src/main/java/ShunLots.java";
    private static final Path DOCUMENT = Path.of("../shared/DOC.md");
    private static final int MOST_CLASSES = 12;
    private static final int MOST_FIELDS = 20;
    private static final String[] FACE = {
        "boolean entry(int, int, int, int)", "int told(int, int, int)", "long worth(int, int)",
        "int why(int)", "long whole(int)", "boolean shun(int, int)",
        "boolean edge(int, int, int, int)", "long all(int)", "boolean trees(int, int)",
        "boolean tell(int, int)", "boolean hand(int)", "boolean given(int, int, int, int)",
        "boolean thin(int, int, int)", "boolean part(int, int, int)", "boolean other(int, int, int)",
        "boolean mix(int, int, int, int, int)", "long share(int, int)", "long chance(int, int, int)",
        "long within(int, int, int)", "long out(int, int, int)", "long size(int, int, int)",
        "long mean(int, int)", "long spread(int, int)", "long both(int, int, int, int)",
        "int shuns(int)", "int rises(int)", "int greatest(int)", "int greedy(int, int)",
        "int same(int, int)", "int draw(int, long)",
    };
    private static final String[] FORBIDDEN = {
        "\\b(throw|throws|try|catch|synchronized|assert|import|package|protected)\\b",
        "->", "::", "\\bstatic\\s*\\{", "Exact\\b", "\\b(double|float)\\b", "\"",
        "\\bSystem\\.(?!arraycopy\\b)", "\\bMath\\.(?!max\\b|min\\b|abs\\b)", "\\bInteger\\.(?!bitCount\\b)",
    };

    private static int wrong = 0;

    private static void due(String what, boolean holds) {
        if (!holds) {
            wrong++;
            System.out.println(what);
        }
    }

    private static String face(Method method) {
        List<String> types = new ArrayList<>();
        for (Class<?> type : method.getParameterTypes()) {
            types.add(type.getSimpleName());
        }
        return method.getReturnType().getSimpleName() + " " + method.getName() + "(" + String.join(", ", types) + ")";
    }

    private static void checkFace() throws Exception {
        int kind = ShunLots.class.getModifiers();
        due("the class is public and final", Modifier.isPublic(kind) && Modifier.isFinal(kind));
        TreeSet<String> seen = new TreeSet<>();
        TreeSet<String> names = new TreeSet<>();
        for (Method method : ShunLots.class.getDeclaredMethods()) {
            if (!Modifier.isPrivate(method.getModifiers())) {
                due(method + " is public and of the object", Modifier.isPublic(method.getModifiers())
                    && !Modifier.isStatic(method.getModifiers()));
                seen.add(face(method));
                names.add(method.getName());
            }
        }
        due("the methods are " + seen, seen.equals(new TreeSet<>(Arrays.asList(FACE))));
        for (Class<?> inner : ShunLots.class.getDeclaredClasses()) {
            due(inner + " is static", Modifier.isStatic(inner.getModifiers()));
            due(inner + " is not public", !Modifier.isPublic(inner.getModifiers()));
            checkNames(inner, names);
        }
        checkNames(ShunLots.class, names);
        Constructor<?>[] makers = ShunLots.class.getDeclaredConstructors();
        due("one public constructor", makers.length == 1 && Modifier.isPublic(makers[0].getModifiers())
            && Arrays.equals(makers[0].getParameterTypes(), new Class<?>[] {int.class}));
        checkFields();
    }

    /** The document's face, word for word: names of parameters and the order of members, too. */
    private static void checkFaceOfDocument() throws Exception {
        if (!Files.exists(DOCUMENT)) {
            return;
        }
        String source = Files.readString(Path.of(SOURCE));
        String document = Files.readString(DOCUMENT);
        int start = document.indexOf("public final class ShunLots {");
        int end = document.indexOf("```", Math.max(0, start));
        due("the document has a face", start >= 0 && end > start);
        int at = 0;
        int members = 0;
        for (String line : document.substring(Math.max(0, start), Math.max(0, end)).split("\n")) {
            if (line.startsWith("    public ")) {
                String member = line.endsWith(");") ? line.replace(");", ") {") : line;
                int next = source.indexOf("\n" + member + "\n", at);
                due("the source has, in the document's order," + line, next >= 0);
                at = Math.max(at, next);
                members++;
            }
        }
        due("the document's face has " + members + " members", members == FACE.length + 2);
    }

    private static void checkCounts() {
        Class<?>[] inner = ShunLots.class.getDeclaredClasses();
        due("at most twelve classes", inner.length + 1 <= MOST_CLASSES);
        for (Class<?> owner : inner) {
            due(owner + " has at most twenty fields", fieldsOf(owner) <= MOST_FIELDS);
        }
        due("at most twenty fields", fieldsOf(ShunLots.class) <= MOST_FIELDS);
    }

    private static int fieldsOf(Class<?> owner) {
        int fields = 0;
        for (Field field : owner.getDeclaredFields()) {
            if (!Modifier.isStatic(field.getModifiers())) {
                fields++;
            }
        }
        return fields;
    }

    private static void checkNames(Class<?> owner, TreeSet<String> names) {
        for (Method method : owner.getDeclaredMethods()) {
            due(method + " bears a public one's name", Modifier.isPublic(method.getModifiers())
                || !names.contains(method.getName()));
            due(method + " has at most seven parameters", method.getParameterCount() <= 7);
        }
    }

    private static void checkFields() throws Exception {
        for (Field field : ShunLots.class.getDeclaredFields()) {
            int kind = field.getModifiers();
            boolean isNone = field.getName().equals("NONE");
            due(field + " is private", isNone || Modifier.isPrivate(kind));
            due(field + " is final if static", !Modifier.isStatic(kind) || Modifier.isFinal(kind));
        }
        Field none = ShunLots.class.getField("NONE");
        int kind = none.getModifiers();
        due("NONE is a constant int", none.getType() == int.class && Modifier.isStatic(kind) && Modifier.isFinal(kind));
    }

    private static void checkSource() throws Exception {
        String text = Files.readString(Path.of(SOURCE));
        for (int at = 0; at < text.length(); at++) {
            due("sign " + (int) text.charAt(at) + " at " + at, text.charAt(at) < 128);
        }
        String code = text.replaceAll("(?s)/\\*.*?\\*/", "").replaceAll("//.*", "");
        for (String pattern : FORBIDDEN) {
            Matcher matcher = Pattern.compile(pattern).matcher(code);
            while (matcher.find()) {
                due("the source has '" + matcher.group() + "'", false);
            }
        }
        checkNewOnlyInConstructors(code);
    }

    /** All rows are made once, so a run's room does not grow with its calls. */
    private static void checkNewOnlyInConstructors(String code) {
        Matcher method = Pattern.compile("(?m)^ {4,8}(?:(?:public|private|static) )*[\\w\\[\\]]+ (\\w+)\\([^)]*\\) \\{").matcher(code);
        while (method.find()) {
            int end = code.indexOf("\n" + " ".repeat(indent(method.group())) + "}", method.end());
            String body = code.substring(method.end(), Math.max(end, method.end()));
            boolean isConstructor = method.group().trim().startsWith("public ShunLots(");
            due(method.group(1) + " makes objects", isConstructor || !body.contains("new "));
            due(method.group(1) + " is long", body.lines().count() <= 60);
        }
    }

    private static int indent(String line) {
        return line.length() - line.stripLeading().length();
    }

    public static void main(String[] args) throws Exception {
        checkFace();
        checkFaceOfDocument();
        checkCounts();
        checkSource();
        System.out.println(wrong == 0 ? "the face and the rules hold" : wrong + " rules are broken");
        if (wrong != 0) {
            System.exit(1);
        }
    }
}
