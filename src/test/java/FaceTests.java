import java.io.IOException;
import java.lang.reflect.Constructor;
import java.lang.reflect.Field;
import java.lang.reflect.Method;
import java.lang.reflect.Modifier;
import java.nio.file.Files;
import java.nio.file.Path;
import java.util.ArrayList;
import java.util.Arrays;
import java.util.List;
import java.util.Set;
import java.util.TreeSet;
import java.util.regex.Matcher;
import java.util.regex.Pattern;

/** The face of the class, as the document and the rules of LANGUAGE.md want it. */
public final class FaceTests {
    private static final Check CHECK = new Check("FaceTests");
    private static final Path DOCUMENT = Path.of("../shared/DOC.md");
    private static final Path SOURCE = Path.of("src/main/java/LintelBrothers.java");

    public static void main(String[] args) throws IOException {
        constants();
        members();
        methods();
        headings();
        nestedClasses();
        source();
        CHECK.end();
    }

    private static void constants() {
        CHECK.same("DOOR_LIMIT", 1, () -> LintelBrothers.DOOR_LIMIT);
        CHECK.same("CONSTRAINT_LIMIT", 2, () -> LintelBrothers.CONSTRAINT_LIMIT);
        CHECK.same("SAME_CONSTRAINT", 3, () -> LintelBrothers.SAME_CONSTRAINT);
        CHECK.same("EMPTY", 4, () -> LintelBrothers.EMPTY);
        CHECK.same("CONFLICT", 5, () -> LintelBrothers.CONFLICT);
        CHECK.same("COMMAND_REJECTED", 6, () -> LintelBrothers.COMMAND_REJECTED);
    }

    private static void members() {
        Class<?> face = LintelBrothers.class;
        CHECK.same("public final", Modifier.PUBLIC | Modifier.FINAL, face::getModifiers);
        CHECK.same("one public constructor", "[public LintelBrothers()]",
                () -> Arrays.toString(face.getDeclaredConstructors()));
        Set<String> shown = new TreeSet<>();
        for (Field field : face.getDeclaredFields()) {
            if (!Modifier.isPrivate(field.getModifiers())) {
                shown.add(field.getName());
            }
        }
        CHECK.same("the constants alone", "[COMMAND_REJECTED, CONFLICT, CONSTRAINT_LIMIT, DOOR_LIMIT, EMPTY, "
                + "SAME_CONSTRAINT]", shown::toString);
    }

    /** Each method as the document writes it, with the exceptions in their order. */
    private static String written(Method method) {
        List<String> thrown = new ArrayList<>();
        for (Class<?> exception : method.getExceptionTypes()) {
            thrown.add(exception.getSimpleName());
        }
        List<String> types = new ArrayList<>();
        for (Class<?> type : method.getParameterTypes()) {
            types.add(type.getSimpleName());
        }
        return "public " + method.getReturnType().getSimpleName() + " " + method.getName()
                + "(" + String.join(", ", types) + ")"
                + (thrown.isEmpty() ? "" : " throws " + String.join(", ", thrown));
    }

    private static void methods() throws IOException {
        Set<String> due = new TreeSet<>();
        for (String line : Files.readAllLines(DOCUMENT)) {
            if (line.startsWith("    public ") && line.contains("(") && !line.contains(" LintelBrothers(")) {
                String method = line.strip().replace(";", "");
                due.add(method.replaceAll("(int|char) \\w+(?=[,)])", "$1"));
            }
        }
        Set<String> got = new TreeSet<>();
        Set<String> names = new TreeSet<>();
        Set<String> privateNames = new TreeSet<>();
        for (Method method : LintelBrothers.class.getDeclaredMethods()) {
            if (Modifier.isPrivate(method.getModifiers())) {
                privateNames.add(method.getName());
            } else {
                got.add(written(method));
                names.add(method.getName());
            }
        }
        CHECK.same("54 methods of the face", 54, due::size);
        CHECK.same("the methods of the face", due.toString(), got::toString);
        for (Class<?> nested : LintelBrothers.class.getDeclaredClasses()) {
            for (Method method : nested.getDeclaredMethods()) {
                privateNames.add(method.getName());
            }
        }
        privateNames.retainAll(names);
        CHECK.same("no private method has a public one's name", "[]", privateNames::toString);
    }

    /** The headings that the interface has ahead of its calls, and the calls below them. */
    private static void headings() throws IOException {
        List<String> due = new ArrayList<>();
        for (String line : Files.readAllLines(DOCUMENT)) {
            Matcher heading = Pattern.compile("Ahead of the calls (.+) the interface says: (---- .+)\\.").matcher(line);
            if (heading.matches()) {
                due.add(heading.group(2));
                due.addAll(Arrays.asList(heading.group(1).replace("`", "").split(", ")));
            }
        }
        List<String> got = new ArrayList<>();
        for (String line : Files.readAllLines(SOURCE)) {
            Matcher call = Pattern.compile("    public \\w+ (\\w+)\\(.*").matcher(line);
            if (call.matches()) {
                got.add(call.group(1));
            } else if (line.startsWith("    // ---- ")) {
                got.add(line.strip().substring("// ".length()));
            }
        }
        CHECK.same("headings and calls of the document", 8 + 54, due::size);
        CHECK.same("headings ahead of the calls", due, () -> got.subList(0, Math.min(due.size(), got.size())));
    }

    private static void nestedClasses() {
        Class<?>[] nested = LintelBrothers.class.getDeclaredClasses();
        CHECK.same("not too many classes", true, () -> nested.length <= 11);
        for (Class<?> one : nested) {
            CHECK.same("static and not public: " + one, true,
                    () -> Modifier.isStatic(one.getModifiers()) && !Modifier.isPublic(one.getModifiers()));
            CHECK.same("not too many fields: " + one, true, () -> one.getDeclaredFields().length <= 20);
            for (Constructor<?> constructor : one.getDeclaredConstructors()) {
                CHECK.same("few parameters: " + constructor, true, () -> constructor.getParameterCount() <= 7);
            }
        }
    }

    /** What the rules of LANGUAGE.md keep out, as far as plain words in the source show it. */
    private static void source() throws IOException {
        String text = Files.readString(SOURCE);
        for (String word : new String[] {"finally", "synchronized", "assert", "->", "::", "@", "package", "protected",
            "Exact(", "java.lang", "volatile", "transient", "native"}) {
            boolean isWord = Character.isLetter(word.charAt(0)) && Character.isLetter(word.charAt(word.length() - 1));
            boolean found = isWord ? text.matches("(?s).*\\b" + word + "\\b.*") : text.contains(word);
            CHECK.same("not in the source: " + word, false, () -> found);
        }
        for (String line : text.split("\n")) {
            if (line.startsWith("import ")) {
                CHECK.same("an import that is allowed: " + line, true, () -> line.strip().matches(
                        "import java\\.util\\.(ArrayList|Arrays|Iterator|List|NoSuchElementException);"));
            }
        }
        int longest = 0;
        int start = 0;
        String[] lines = text.split("\n");
        for (int line = 0; line < lines.length; line++) {
            if (lines[line].matches("( {4}| {8})(public|private|static|void|int|boolean|char|double|float).*\\{")) {
                start = line;
            }
            if (lines[line].matches("( {4}| {8})\\}")) {
                longest = Math.max(longest, line - start + 1);
                start = line;
            }
        }
        int most = longest;
        CHECK.same("short methods", true, () -> most <= 60);
    }
}
