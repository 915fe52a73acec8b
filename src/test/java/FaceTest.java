import java.lang.reflect.Constructor;
import java.lang.reflect.Field;
import java.lang.reflect.Method;
import java.lang.reflect.Modifier;
import java.nio.file.Files;
import java.nio.file.Path;
import java.util.Arrays;
import java.util.Set;
import java.util.TreeSet;
import java.util.regex.Matcher;
import java.util.regex.Pattern;
import java.util.stream.Collectors;

/** The public face of the document, and those rules of LANGUAGE.md that can be looked up. */
public final class FaceTest {
    private static final String FACE = """
        int write(int)
        int wipe()
        int fault()
        int cave()
        int leg(int, int)
        int measure(int, int, int, int, int, int)
        int take(int)
        int read(int, int, int)
        int fall(int)
        int undo()
        int laid(int, int)
        int miss(int, int)
        long evened(int, int, boolean)
        long rest(int, int, boolean)
        long squares(boolean)
        int ask(int)
        int widest(int, int)
        int come(int)
        int must(int)
        int judge(int, long)
        int see(int, int, int, int)
        int unsee()
        int which()
        int share(int, boolean)
        int falls(int, int, int, boolean)
        long seed(long)
        int drawn(int)
        int keep(int)
        int again(int)
        int count(int)
        """;

    private static final Set<String> CONSTANTS = Set.of("UNKNOWN", "OUTSIDE", "STATE", "FULL", "NONE");

    public static void main(String[] args) throws Exception {
        documentsFace(Files.readString(Path.of("../shared/DOC.md")));
        face();
        insideClasses();
        source(Files.readString(Path.of("src/main/java/CaveLegs.java")));
        Check.end();
    }

    /** The lists above are those of the document, so that the class is held to it. */
    private static void documentsFace(String document) throws ReflectiveOperationException {
        Matcher method = Pattern.compile("(?m)^    public (int|long) (\\w+)\\(([^)]*)\\);").matcher(document);
        Set<String> methods = new TreeSet<>();
        while (method.find()) {
            String types = method.group(3).replaceAll("(\\w+) \\w+", "$1");
            methods.add(method.group(1) + " " + method.group(2) + "(" + types + ")");
        }
        Check.isTrue("methods of the document " + methods, methods.equals(new TreeSet<>(FACE.lines().toList())));
        Matcher constants = Pattern.compile("public static final int ([^;]+);").matcher(document);
        Set<String> names = new TreeSet<>();
        while (constants.find()) {
            for (String constant : constants.group(1).split(", ")) {
                String[] parts = constant.split(" = ");
                names.add(parts[0]);
                Check.due(parts[0], CaveLegs.class.getField(parts[0]).getInt(null), Integer.parseInt(parts[1]));
            }
        }
        Check.isTrue("constants of the document " + names, names.equals(CONSTANTS));
    }

    private static void face() {
        int modifiers = CaveLegs.class.getModifiers();
        Check.isTrue("public and final", Modifier.isPublic(modifiers) && Modifier.isFinal(modifiers));
        Set<String> methods = new TreeSet<>();
        for (Method m : CaveLegs.class.getDeclaredMethods()) {
            if (!Modifier.isPrivate(m.getModifiers())) {
                String types = Arrays.stream(m.getParameterTypes()).map(Class::getName).collect(Collectors.joining(", "));
                methods.add(m.getReturnType() + " " + m.getName() + "(" + types + ")");
                Check.isTrue(m + " is public and not static", Modifier.toString(m.getModifiers()).equals("public"));
            }
        }
        Check.isTrue("methods " + methods, methods.equals(new TreeSet<>(FACE.lines().toList())));
        Constructor<?>[] made = CaveLegs.class.getDeclaredConstructors();
        Check.isTrue("one public constructor", made.length == 1 && made[0].toString().equals("public CaveLegs()"));
        for (Field f : CaveLegs.class.getDeclaredFields()) {
            String wanted = CONSTANTS.contains(f.getName()) ? "public static final" : "private";
            Check.isTrue(f + " is " + wanted, Modifier.toString(f.getModifiers()).startsWith(wanted));
            Check.isTrue(f + " is final if static", !Modifier.isStatic(f.getModifiers()) || Modifier.isFinal(f.getModifiers()));
        }
    }

    private static void insideClasses() {
        Set<String> faceNames = FACE.lines().map(l -> l.replaceAll("^\\w+ (\\w+).*", "$1")).collect(Collectors.toSet());
        Check.isTrue("at most twelve classes", CaveLegs.class.getDeclaredClasses().length < 12);
        ownNames(CaveLegs.class, faceNames);
        for (Class<?> inside : CaveLegs.class.getDeclaredClasses()) {
            Check.isTrue(inside + " is static", Modifier.isStatic(inside.getModifiers()));
            ownNames(inside, faceNames);
        }
    }

    private static void ownNames(Class<?> type, Set<String> faceNames) {
        for (Method m : type.getDeclaredMethods()) {
            boolean hidden = Modifier.isPrivate(m.getModifiers());
            Check.isTrue(m + " has a name of its own", !hidden || !faceNames.contains(m.getName()));
        }
    }

    private static void source(String text) {
        String code = text.replaceAll("(?s)/\\*.*?\\*/", "").replaceAll("//[^\n]*", "");
        Matcher banned = Pattern.compile("\\b(throw|throws|try|catch|synchronized|assert|System(?!\\.arraycopy)|Object)\\b|->|::|\\w+Exact\\b")
            .matcher(code);
        Check.isTrue("no word that the rules leave out" + (banned.find() ? ": " + banned.group() : ""), !banned.reset().find());
        Check.isTrue("no import but those of the rules",
            code.replaceAll("import java\\.util\\.(Arrays|ArrayList|List|Iterator);", "").indexOf("import") < 0);
        Check.isTrue("no package line", !Pattern.compile("(?m)^package").matcher(code).find());
        Check.isTrue("plain signs alone", text.chars().allMatch(c -> c == '\n' || c >= ' ' && c <= '~'));
    }
}
