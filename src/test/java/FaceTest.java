import java.io.IOException;
import java.lang.reflect.Constructor;
import java.lang.reflect.Field;
import java.lang.reflect.Method;
import java.lang.reflect.Modifier;
import java.nio.file.Files;
import java.nio.file.Path;
import java.util.Arrays;
import java.util.HashSet;
import java.util.List;
import java.util.Set;
import java.util.regex.Matcher;
import java.util.regex.Pattern;

/** The public face of the document, and the rules of LANGUAGE.md that a look at the class can tell. */
public final class FaceTest {
    private static final String[] FACE = {
        "int shop(int)", "int kind(int, int, int, int)", "int priceAt(int, int)", "int throwing(int, int)",
        "int weather(int, int)", "int hours(int)", "int cut(int, int, int)", "int step(int, int)",
        "int warm(int, int, int)", "int batch(int, int, int, int)", "int ofBatch(int, int)",
        "int shelf(int, int, int)", "int feed(int, int, int, int, int)", "int end(int)", "int law(int, int)",
        "int inForce(int, int, int)", "int says(int, int)", "int buy(int, int, int)",
        "int foretold(int, int, int, int)", "int plan(int, int)", "int planned(int)", "int left()",
        "int order(int, int, int, int)", "long loss(int, int, int, int, int)", "int crates(int, int, int)",
        "int ways()", "int comes(int)", "int move(int, int, int, int)", "int drawn(int, int)",
        "int early(int, int, int, int)", "int waiting(int, int, int, int)", "int kitchen(int, int)",
        "int gift(int, int, int, int)", "int bin(int, int, int)", "int tossed(int)",
        "int isBad(int, int, int)", "int since(int, int)", "int till(int)", "int count(int)"};

    private static final String[] FORBIDDEN = {
        "\\bthrow\\b", "\\btry\\b", "\\bcatch\\b", "\\bsynchronized\\b", "\\bassert\\b", "->", "::", "\\bvar\\b",
        "Exact\\b", "\\bprotected\\b", "\\bhashCode\\b", "\\btoString\\b", "\\bSystem\\.(?!arraycopy)",
        "\\bThread\\b", "\\bRandom\\b", "\\bThrowable\\b", "\\bException\\b", "\\bstatic\\s*\\{"};

    private static final int CLASSES_MOST = 12, FIELDS_MOST = 20, PARAMETERS_MOST = 7, LINES_MOST = 60;

    private static Set<String> names = new HashSet<>();

    private static String told(Method m) {
        StringBuilder text = new StringBuilder(m.getReturnType() + " " + m.getName() + "(");
        for (Class<?> p : m.getParameterTypes()) {
            text.append(text.charAt(text.length() - 1) == '(' ? "" : ", ").append(p);
        }
        return text.append(")").toString();
    }

    private static void no(String what, boolean fault) {
        Check.due(what, fault ? 1 : 0, 0);
    }

    private static void constants() {
        Check.due("BAD", DuskShelves.BAD, -1);
        Check.due("NOT", DuskShelves.NOT, -2);
        Check.due("FULL", DuskShelves.FULL, -3);
        Check.due("BIG", DuskShelves.BIG, -4);
        Check.due("VOID", DuskShelves.VOID, -2000000000);
    }

    private static void face() {
        List<String> due = Arrays.asList(FACE);
        int found = 0;
        for (Method m : DuskShelves.class.getDeclaredMethods()) {
            boolean open = Modifier.isPublic(m.getModifiers());
            no("neither public nor private: " + m, !open && !Modifier.isPrivate(m.getModifiers()));
            no("not of the face: " + told(m), open && !due.contains(told(m)));
            found += open ? 1 : 0;
        }
        Check.due("public methods", found, FACE.length);
        int open = 0;
        for (Field f : DuskShelves.class.getDeclaredFields()) {
            no("neither public nor private: " + f,
                !Modifier.isPublic(f.getModifiers()) && !Modifier.isPrivate(f.getModifiers()));
            open += Modifier.isPublic(f.getModifiers()) ? 1 : 0;
        }
        Check.due("public fields", open, 5);
        Constructor<?>[] made = DuskShelves.class.getDeclaredConstructors();
        Check.due("constructors", made.length, 1);
        no("constructor not public", !Modifier.isPublic(made[0].getModifiers()));
        no("class not final", !Modifier.isFinal(DuskShelves.class.getModifiers()));
    }

    private static void shape(Class<?> of) {
        int fields = 0;
        for (Field f : of.getDeclaredFields()) {
            boolean kept = Modifier.isStatic(f.getModifiers());
            no("static and not final: " + f, kept && !Modifier.isFinal(f.getModifiers()));
            fields += kept ? 0 : 1;
        }
        no("too many fields: " + of, fields > FIELDS_MOST);
        for (Method m : of.getDeclaredMethods()) {
            no("too many parameters: " + m, m.getParameterCount() > PARAMETERS_MOST);
            no("the name of a public one: " + m,
                !Modifier.isPublic(m.getModifiers()) && names.contains(m.getName()));
        }
    }

    private static void shapes() {
        for (String row : FACE) {
            names.add(row.substring(row.indexOf(' ') + 1, row.indexOf('(')));
        }
        shape(DuskShelves.class);
        Class<?>[] inside = DuskShelves.class.getDeclaredClasses();
        no("too many classes", inside.length + 1 > CLASSES_MOST);
        for (Class<?> c : inside) {
            no("inside and not static: " + c, !Modifier.isStatic(c.getModifiers()));
            shape(c);
        }
    }

    private static void source(String path) throws IOException {
        String text = Files.readString(Path.of(path));
        String bare = text.replaceAll("(?s)/\\*.*?\\*/", "").replaceAll("//[^\n]*", "");
        for (String word : FORBIDDEN) {
            no("forbidden: " + word, Pattern.compile(word).matcher(bare).find());
        }
        Matcher imports = Pattern.compile("import ([^;]*);").matcher(bare);
        while (imports.find()) {
            no("import " + imports.group(1), !imports.group(1).equals("java.util.Arrays"));
        }
        no("signs beyond 127", !text.chars().allMatch(c -> c < 128));
        int start = 0;
        String[] lines = text.split("\n");
        for (int i = 0; i < lines.length; i++) {
            if (lines[i].matches("( {4}| {8})[a-z].*\\) \\{")) start = i;
            if (lines[i].matches("( {4}| {8})\\}")) no("long method at line " + start, i - start > LINES_MOST);
        }
    }

    public static void main(String[] args) throws IOException {
        constants();
        face();
        shapes();
        source(args.length > 0 ? args[0] : "src/main/java/DuskShelves.java");
        Check.end("FaceTest");
    }
}
