import java.io.IOException;
import java.lang.reflect.Constructor;
import java.lang.reflect.Field;
import java.lang.reflect.Method;
import java.lang.reflect.Modifier;
import java.nio.file.Files;
import java.nio.file.Path;
import java.util.ArrayList;
import java.util.HashSet;
import java.util.IdentityHashMap;
import java.util.List;
import java.util.Map;
import java.util.Set;
import java.util.TreeSet;
import java.util.regex.Matcher;
import java.util.regex.Pattern;

/** The public face, and those rules of LANGUAGE.md that a look at the class and its text can tell. */
public final class LanguageTest {
    private static final String FACE = "int feed(int,int,int,int,int)|int end(int)|int grammar()|int fault(int)|int say()"
        + "|int count(int)|int tree(int,int)|int node(int,int,int)|int out(int,int)|int marks(int,int,int)"
        + "|long over(int,int,int,int,int,int,int)|int items(int)|int spans(int,int)|int around(int,int,int,int)"
        + "|int reads()|int heads()|long ways()|long without(int)|int lengths(int)|int steps(long)"
        + "|int step(long,int,int)|int whose(long,int,int)|int arcs(long,int)|int grown(long,int)|int tell(long)"
        + "|int tellWay(long)|int octet(int)|int test()|int mends()|int mend(int)|int sentences(int)"
        + "|int sentence(int,int)|int used(int)";
    private static final String[] FORBIDDEN = {"throw", "try", "catch", "synchronized", "assert", "package", "protected",
        "double", "float", "Object", "System.out", "hashCode", "toString", "lambda", "var", "interface"};

    private final Checks checks = new Checks();

    public static void main(String[] args) throws IOException, IllegalAccessException {
        LanguageTest test = new LanguageTest();
        test.lookAtFace();
        test.lookAtClasses();
        test.lookAtText(Files.readString(Path.of("src/main/java/CrossReader.java")));
        test.lookAtMaking(Files.readString(Path.of("src/main/java/CrossReader.java")));
        test.lookAtRoom();
        test.checks.finish();
    }

    private static String described(Method method) {
        StringBuilder text = new StringBuilder(method.getReturnType().getName()).append(' ').append(method.getName());
        text.append('(');
        for (int i = 0; i < method.getParameterCount(); i++) {
            text.append(i == 0 ? "" : ",").append(method.getParameterTypes()[i].getName());
        }
        return text.append(')').toString();
    }

    private void lookAtFace() {
        checks.about("rule 1");
        Set<String> visible = new TreeSet<>();
        Set<String> hidden = new HashSet<>();
        for (Method method : CrossReader.class.getDeclaredMethods()) {
            if (Modifier.isPrivate(method.getModifiers())) {
                hidden.add(method.getName());
            } else if (!method.isSynthetic()) {
                visible.add(described(method));
                checks.due("public " + method, Modifier.isPublic(method.getModifiers()) ? 1 : 0, 1);
            }
        }
        checks.due("the methods", visible.toString(), new TreeSet<>(List.of(FACE.split("\\|"))).toString());
        for (String one : visible) {
            String name = one.substring(one.indexOf(' ') + 1, one.indexOf('('));
            checks.due("private ones named " + name, hidden.contains(name) ? 1 : 0, 0);
        }
        for (Field field : CrossReader.class.getDeclaredFields()) {
            boolean constant = field.getName().equals("NONE") || field.getName().equals("TOO_GREAT");
            checks.due("public " + field, Modifier.isPublic(field.getModifiers()) ? 1 : 0, constant ? 1 : 0);
            checks.due("private " + field, Modifier.isPrivate(field.getModifiers()) ? 1 : 0, constant ? 0 : 1);
        }
        Constructor<?>[] constructors = CrossReader.class.getDeclaredConstructors();
        checks.due("constructors", constructors.length, 1);
        checks.due("final", Modifier.isFinal(CrossReader.class.getModifiers()) ? 1 : 0, 1);
    }

    private void lookAtClasses() {
        checks.about("rules 2, 5, 11");
        List<Class<?>> classes = new ArrayList<>(List.of(CrossReader.class.getDeclaredClasses()));
        classes.add(CrossReader.class);
        checks.due("classes", classes.size() <= 12 ? 1 : 0, 1);
        for (Class<?> one : classes) {
            int fields = 0;
            for (Field field : one.getDeclaredFields()) {
                boolean isStatic = Modifier.isStatic(field.getModifiers());
                fields += isStatic ? 0 : 1;
                checks.due("final " + field, isStatic && !Modifier.isFinal(field.getModifiers()) ? 1 : 0, 0);
            }
            checks.due("fields of " + one + ": " + fields, fields <= 21 ? 1 : 0, 1);
            boolean inside = one != CrossReader.class;
            for (Method method : one.getDeclaredMethods()) {
                checks.due("the face's name " + method, inside && FACE.contains(" " + method.getName() + "(") ? 1 : 0, 0);
                checks.due("parameters of " + method, method.getParameterCount() <= 7 ? 1 : 0, 1);
            }
            checks.due("static " + one, inside && !Modifier.isStatic(one.getModifiers()) ? 1 : 0, 0);
        }
    }

    private void lookAtText(String text) {
        checks.about("rules 3, 4, 6, 11");
        String bare = text.replaceAll("(?s)/\\*.*?\\*/", "").replaceAll("//[^\n]*", "");
        for (String word : FORBIDDEN) {
            Matcher found = Pattern.compile("\\b" + Pattern.quote(word) + "\\b").matcher(bare);
            checks.due("uses of " + word, found.find() ? 1 : 0, 0);
        }
        checks.due("lambdas", bare.contains("->") ? 1 : 0, 0);
        checks.due("method references", bare.contains("::") ? 1 : 0, 0);
        checks.due("annotations", bare.contains("@") ? 1 : 0, 0);
        Matcher imports = Pattern.compile("import [^;]*;").matcher(bare);
        while (imports.find()) {
            checks.due("the import", imports.group(), "import java.util.Arrays;");
        }
        int start = 0;
        String[] lines = text.split("\n");
        for (int line = 0; line < lines.length; line++) {
            if (lines[line].matches(" {4,8}[a-zA-Z].*\\) \\{")) {
                start = line;
            }
            if (lines[line].matches(" {4,8}}") && start > 0) {
                checks.due("lines of the method at " + start, line - start <= 60 ? 1 : 0, 1);
                start = 0;
            }
            checks.due("signs of line " + line, lines[line].length() <= 120 ? 1 : 0, 1);
        }
    }

    /** Objects are made where fields are told, and in constructors, so that calls make none. */
    private void lookAtMaking(String text) {
        checks.about("rule 12");
        for (String line : text.split("\n")) {
            boolean made = line.matches(".*\\bnew \\w.*") && !line.matches("\\s*(//|/?\\*).*");
            boolean field = line.matches("( {4}){1,2}(private )?(final )?[\\w\\[\\]]+ \\w+ = new .*;");
            boolean row = line.equals("            row = new byte[Math.max(room, 0)];");
            checks.due("made in " + line, made && !field && !row ? 1 : 0, 0);
        }
    }

    /** Some 60 objects go into a room of 7.3 million fields and elements, however many calls they answer. */
    private void lookAtRoom() throws IllegalAccessException {
        checks.about("the room");
        CrossReader x = new CrossReader();
        long before = sizeOf(x, new IdentityHashMap<>());
        checks.due("fields and elements: " + before, before < 120000 ? 1 : 0, 1);
        Checks.grammar(x, "tree(S(S! S^ S^)(S!(S! S^ S^)(S! S^ a)));tree(S(S(S(S .))));tree(S b S*);");
        Checks.say(x, "aababaaa");
        long k = x.ways() - 1;
        x.tell(k);
        x.tellWay(k);
        Checks.test(x, "0;");
        x.mends();
        x.sentences(4);
        x.used(0);
        x.without(1);
        x.items(1);
        checks.due("more behind the dearest calls", sizeOf(x, new IdentityHashMap<>()) > before ? 1 : 0, 0);
    }

    private static long sizeOf(Object one, Map<Object, Boolean> seen) throws IllegalAccessException {
        if (one == null || seen.put(one, true) != null) {
            return 0;
        }
        Class<?> kind = one.getClass();
        if (kind.isArray()) {
            long size = java.lang.reflect.Array.getLength(one);
            if (one instanceof Object[] parts) {
                for (Object part : parts) {
                    size += sizeOf(part, seen);
                }
            }
            return size;
        }
        long size = 0;
        for (Class<?> up = kind; up != Object.class; up = up.getSuperclass()) {
            for (Field field : up.getDeclaredFields()) {
                if (!Modifier.isStatic(field.getModifiers())) {
                    field.setAccessible(true);
                    size += 1 + (field.getType().isPrimitive() ? 0 : sizeOf(field.get(one), seen));
                }
            }
        }
        return size;
    }
}
