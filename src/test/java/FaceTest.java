import java.io.IOException;
import java.lang.reflect.Constructor;
import java.lang.reflect.Field;
import java.lang.reflect.Method;
import java.lang.reflect.Modifier;
import java.nio.file.Files;
import java.nio.file.Path;
import java.util.ArrayList;
import java.util.Arrays;
import java.util.List;
import java.util.TreeSet;
import java.util.regex.Matcher;
import java.util.regex.Pattern;

/** The public face, and the rules of LANGUAGE.md that can be seen in the source. */
final class FaceTest {
    private static final String[] FACE = {
        "int feed(int,int,int,int,int)", "int end(int)", "int text(int,int)", "int fault(int)", "int town(int,int)",
        "int deed(int,int,int)", "int till(int,int)", "int state(int,int,int,int)", "int tellings(int,int,int)",
        "int message(int,int,int)", "int bell(int,int)", "int weddings(int,int)", "int code(int)",
        "long save(int,int,int)", "int byTurns(int,int,boolean)", "int fact(int,int,int)", "int fits(int,int,int)",
        "int drawn(int,int,int,int)", "int roots(int,int)", "int chain(int,int)", "int reach(int,int)",
        "int learnt(int,int,int)", "int best(int,int,boolean)", "int sales(int,int)", "long luck(int,int,boolean)",
        "int after(int,int,int)", "long share(int,int,int,boolean)", "int fewest(int,int,boolean)", "int count(int)",
        "boolean image(int)", "boolean again(int)"
    };

    public static void main(String[] args) throws IOException {
        Class<?> face = OneStatement.class;
        Check.due("public and final", Modifier.isPublic(face.getModifiers()) && Modifier.isFinal(face.getModifiers()), true);
        methods(face);
        members(face);
        nested(face);
        String source = bare(Files.readString(Path.of("src/main/java/OneStatement.java")));
        words(source);
        lengths(source);
        Check.finish();
    }

    private static void methods(Class<?> face) {
        TreeSet<String> found = new TreeSet<>();
        TreeSet<String> names = new TreeSet<>();
        for (Method m : face.getDeclaredMethods()) {
            if (Modifier.isPublic(m.getModifiers())) {
                found.add(m.toString().replace("public ", "").replace("OneStatement.", ""));
                names.add(m.getName());
            }
        }
        TreeSet<String> want = new TreeSet<>(Arrays.asList(FACE));
        Check.due("the face " + found, found.equals(want), true);
        List<Class<?>> all = new ArrayList<>(Arrays.asList(face.getDeclaredClasses()));
        all.add(face);
        for (Class<?> c : all) {
            for (Method m : c.getDeclaredMethods()) {
                boolean own = Modifier.isPublic(m.getModifiers()) && c == face;
                Check.due("the name of " + m, own || !names.contains(m.getName()), true);
                Check.due("seven parameters at most: " + m, m.getParameterCount() <= 7, true);
            }
        }
    }

    private static void members(Class<?> face) {
        for (Method m : face.getDeclaredMethods()) {
            Check.due(m + " is public or private", (m.getModifiers() & (Modifier.PUBLIC | Modifier.PRIVATE)) != 0, true);
        }
        Constructor<?>[] made = face.getDeclaredConstructors();
        Check.due("one constructor", made.length, 1);
        Check.due("without parameters", made[0].getParameterCount(), 0);
        Check.due("public", Modifier.isPublic(made[0].getModifiers()), true);
        for (Field f : face.getDeclaredFields()) {
            boolean constant = f.getName().equals("NONE") && Modifier.isPublic(f.getModifiers());
            Check.due(f + " is private or NONE", constant || Modifier.isPrivate(f.getModifiers()), true);
            statics(f);
        }
    }

    private static void statics(Field f) {
        boolean isStatic = Modifier.isStatic(f.getModifiers());
        Check.due(f + " is final, if static", !isStatic || Modifier.isFinal(f.getModifiers()), true);
        boolean known = List.of("int", "long", "boolean", "char", "java.lang.String", "[I", "[J", "[C", "[B")
            .contains(f.getType().getName());
        Check.due(f + " is of a type that statics may have", !isStatic || known, true);
    }

    private static void nested(Class<?> face) {
        Check.due("twelve classes at most", face.getDeclaredClasses().length + 1 <= 12, true);
        for (Class<?> c : face.getDeclaredClasses()) {
            Check.due(c + " is static", Modifier.isStatic(c.getModifiers()), true);
            int fields = 0;
            for (Field f : c.getDeclaredFields()) {
                statics(f);
                fields += Modifier.isStatic(f.getModifiers()) ? 0 : 1;
            }
            Check.due(c + " has twenty fields at most", fields <= 20, true);
        }
    }

    /** Without comments and texts. */
    private static String bare(String source) {
        return source.replaceAll("(?s)/\\*.*?\\*/", " ").replaceAll("//[^\n]*", " ").replaceAll("\"[^\"\n]*\"", "\"\"");
    }

    private static void words(String source) {
        for (String word : new String[] {"throw", "throws", "try", "catch", "synchronized", "assert", "package", "protected",
            "Object", "equals", "hashCode", "toString", "Thread", "System.nanoTime", "Random", "var"}) {
            Check.due("the word " + word, Pattern.compile("\\b" + word + "\\b").matcher(source).find(), false);
        }
        Check.due("no arrow", source.contains("->"), false);
        Check.due("no method reference", source.contains("::"), false);
        Check.due("no static block", Pattern.compile("static\\s*\\{").matcher(source).find(), false);
        Matcher imports = Pattern.compile("import ([^;]*);").matcher(source);
        while (imports.find()) {
            Check.due("import " + imports.group(1), imports.group(1).equals("java.util.Arrays"), true);
        }
        Matcher library = Pattern.compile("\\b(System|Arrays|Math|Integer|Long)\\.(\\w+)").matcher(source);
        List<String> allowed = List.of("System.arraycopy", "Arrays.fill", "Math.max", "Math.min", "Integer.bitCount",
            "Integer.numberOfTrailingZeros", "Long.bitCount");
        while (library.find()) {
            Check.due("the library's " + library.group(), allowed.contains(library.group()), true);
        }
    }

    private static void lengths(String source) {
        Matcher head = Pattern.compile("(?m)^( {4}| {8})[a-zA-Z][^;=\n]*\\([^;=\n]*\\) \\{$").matcher(source);
        int seen = 0;
        while (head.find()) {
            int close = source.indexOf("\n" + head.group(1) + "}", head.end());
            long lines = source.substring(head.start(), close).lines().count();
            Check.due("sixty lines at most: " + head.group().trim(), lines <= 60, true);
            seen++;
        }
        Check.due("methods seen", seen > 100, true);
    }
}
