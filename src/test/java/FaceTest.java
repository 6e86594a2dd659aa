import java.lang.reflect.Field;
import java.lang.reflect.Method;
import java.lang.reflect.Modifier;
import java.nio.file.Files;
import java.nio.file.Path;
import java.util.Arrays;
import java.util.Set;
import java.util.TreeSet;
import java.util.regex.Matcher;
import java.util.regex.Pattern;

/** The face of the class, as the document gives it, and such rules of LANGUAGE.md as can be looked at by a machine. */
public final class FaceTest {
    private static final String[] FACE = {
        "int feed(int,int,int,int,int)", "int back(int)", "int read()", "int place()", "int plot(int,int)",
        "int witness(int,int)", "int giving(int,int)", "int give(int,int,int,int)", "boolean unsay(int,boolean)",
        "int years(int)", "boolean undo()", "int lasts(int)", "int book()", "int hangs(int)", "int cover(int,int)",
        "int walk(int,int)", "int asks(int)", "int round(int,int)", "int has(int,int)", "int within(int,int)",
        "int rich(int,int)", "int chain(int,int)", "int idle(int)", "int eldest(int)", "int lapse(int)",
        "int passes(int)", "int weakest(int)", "int ownerIn(int,int)", "int then(int,int,int)",
        "int swearIn(int,int)", "int year(int,int,int,int)", "int tell(int,boolean)", "int forget()",
        "int which(int,int)", "int ask(int)", "boolean hold(int)", "boolean restore(int)", "int count(int)"};
    private static final Due due = new Due();

    public static void main(String[] args) throws Exception {
        face();
        hidden(TurfGiving.class);
        for (Class<?> inside : TurfGiving.class.getDeclaredClasses()) {
            inside(inside);
        }
        due.is("classes", TurfGiving.class.getDeclaredClasses().length < 12, true);
        source(Files.readString(Path.of("src/main/java/TurfGiving.java")));
        due.end();
    }

    private static void face() throws Exception {
        Set<String> got = new TreeSet<>();
        for (Method method : TurfGiving.class.getDeclaredMethods()) {
            if (!Modifier.isPrivate(method.getModifiers())) {
                due.is(method + " is public", Modifier.isPublic(method.getModifiers()), true);
                due.is(method + " is not static", Modifier.isStatic(method.getModifiers()), false);
                String types = Arrays.toString(method.getParameterTypes()).replaceAll("[\\[\\] ]", "");
                got.add(method.getReturnType() + " " + method.getName() + "(" + types + ")");
            }
        }
        due.is("methods " + got, got.equals(new TreeSet<>(Arrays.asList(FACE))), true);
        due.is("constructors", TurfGiving.class.getDeclaredConstructors().length, 1);
        due.is("constructor is public", Modifier.isPublic(TurfGiving.class.getDeclaredConstructor().getModifiers()), true);
        due.is("class", TurfGiving.class.getModifiers(), Modifier.PUBLIC | Modifier.FINAL);
        Field none = TurfGiving.class.getDeclaredField("NONE");
        due.is("NONE", none.getModifiers(), Modifier.PUBLIC | Modifier.STATIC | Modifier.FINAL);
        due.is("NONE", none.getInt(null), -1);
    }

    private static void hidden(Class<?> owner) {
        for (Field field : owner.getDeclaredFields()) {
            boolean isNone = field.getName().equals("NONE");
            due.is(field + " is private", Modifier.isPrivate(field.getModifiers()), !isNone);
        }
    }

    private static void inside(Class<?> inside) {
        due.is(inside + " is static", Modifier.isStatic(inside.getModifiers()), true);
        Set<String> names = new TreeSet<>();
        for (String method : FACE) {
            names.add(method.replaceAll("^\\w+ |\\(.*", ""));
        }
        for (Method method : inside.getDeclaredMethods()) {
            due.is(method + " bears a name of the face", names.contains(method.getName()), false);
            due.is(method + " takes at most seven", method.getParameterCount() <= 7, true);
        }
        int fields = 0;
        for (Field field : inside.getDeclaredFields()) {
            if (Modifier.isStatic(field.getModifiers())) {
                due.is(field + " is final", Modifier.isFinal(field.getModifiers()), true);
            } else {
                fields++;
            }
        }
        due.is(inside + " has some twenty fields", fields <= 20, true);
    }

    private static void source(String source) {
        String code = source.replaceAll("(?s)/\\*.*?\\*/", "").replaceAll("//[^\n]*", "").replaceAll("\"[^\"]*\"", "");
        for (String banned : new String[] {"throw", "try", "catch", "synchronized", "assert", "finally", "throws",
            "Random", "System\\.out", "System\\.nano", "System\\.current", "Thread", "hashCode", "toString", "->", "::",
            "Object", "Exact", "package", "protected", "Map", "Set\\b", "stream", "null"}) {
            due.is("source has " + banned, Pattern.compile(banned).matcher(code).find(), false);
        }
        Matcher imports = Pattern.compile("import ([^;]*);").matcher(code);
        while (imports.find()) {
            due.is("import " + imports.group(1), imports.group(1).equals("java.util.Arrays"), true);
        }
        due.is("signs of the source are 0 to 127", source.chars().allMatch(c -> c < 128), true);
        rowsOfText(code);
        int begun = 0;
        String[] lines = source.split("\n");
        for (int i = 0; i < lines.length; i++) {
            if (lines[i].matches(" {4}( {4})?[\\w\\[\\]].*\\) \\{")) {
                begun = i;
            }
            if (lines[i].matches(" {4}( {4})?\\}")) {
                due.is("lines of " + lines[begun], i - begun <= 60 || lines[i].equals("    }") && lines[begun].startsWith("        "), true);
            }
        }
    }

    /** "an index is looked at before it is used": a text's rows are used in Text alone, which looks at each index. */
    private static void rowsOfText(String code) {
        Matcher rows = Pattern.compile("text\\.(kind|begin|value)\\b").matcher(code);
        due.is("rows of a text are used outside of Text", rows.find(), false);
    }
}
