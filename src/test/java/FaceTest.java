import java.lang.reflect.Array;
import java.lang.reflect.Constructor;
import java.lang.reflect.Field;
import java.lang.reflect.Method;
import java.lang.reflect.Modifier;
import java.nio.file.Files;
import java.nio.file.Path;
import java.util.ArrayList;
import java.util.Arrays;
import java.util.IdentityHashMap;
import java.util.List;
import java.util.Map;
import java.util.NoSuchElementException;
import java.util.TreeSet;

/** The document's public face, and of LANGUAGE.md what can be counted. */
public final class FaceTest {
    private static final String[] FACE = {
        "int feed(int,int,int,int,int)", "boolean end(int)", "int next(int)", "int word()", "boolean means(int,int)",
        "boolean sign(int,int)", "int clue(int,int)", "boolean light(int,int,int,boolean)", "boolean solution(int,int)",
        "int readings(int,int,int)", "int best(int,int,int)", "int octet(int)", "int possible(int,int)",
        "int possibleAt(int,int,int)", "boolean enter(int,int,int)", "int cell(int,int)", "int left(int,int)",
        "int nextLight(int)", "int solve(int)", "int fillings(int)", "int filled(int)", "int unfair(int)",
        "int told(int,int)", "int send()", "int right(int,int)", "int winner(int)", "int count(int)"};
    private static final String[] FORBIDDEN = {
        "catch", "finally", "try", "synchronized", "assert", "double", "float", "System.out", "Exact(", "->", "::",
        "hashCode", "toString", "package", "Random", "Thread", "nanoTime", "currentTimeMillis", "getMessage"};

    public static void main(String[] args) throws Exception {
        methods();
        fieldsAndConstructor();
        exceptions();
        classesInside();
        source();
        library();
        elements();
        Desk.close();
    }

    private static void due(String what, Object got, Object want) {
        Desk.due(what, got, want);
    }

    private static String face(Method m) {
        StringBuilder s = new StringBuilder(m.getReturnType() + " " + m.getName() + "(");
        for (Class<?> p : m.getParameterTypes()) s.append(s.charAt(s.length() - 1) == '(' ? "" : ",").append(p);
        return s.append(')').toString();
    }

    private static void methods() {
        TreeSet<String> found = new TreeSet<>();
        TreeSet<String> names = new TreeSet<>();
        for (Method m : ClueRoom.class.getDeclaredMethods()) {
            if (m.isSynthetic()) continue;
            if (Modifier.isPublic(m.getModifiers())) {
                found.add(face(m));
                names.add(m.getName());
            }
        }
        due("public methods", found, new TreeSet<>(Arrays.asList(FACE)));
        for (Method m : ClueRoom.class.getDeclaredMethods()) {
            if (m.isSynthetic() || Modifier.isPublic(m.getModifiers())) continue;
            due(m.getName() + " is private", Modifier.isPrivate(m.getModifiers()), true);
            due(m.getName() + " has a name of its own", names.contains(m.getName()), false);
        }
    }

    private static void fieldsAndConstructor() throws Exception {
        due("the class", Modifier.toString(ClueRoom.class.getModifiers()), "public final");
        for (Field f : ClueRoom.class.getDeclaredFields()) {
            boolean none = f.getName().equals("NONE");
            due(f.getName(), Modifier.isPrivate(f.getModifiers()), !none);
        }
        due("NONE", Modifier.toString(ClueRoom.class.getField("NONE").getModifiers()), "public static final");
        due("its value", ClueRoom.NONE, -1);
        Constructor<?>[] all = ClueRoom.class.getDeclaredConstructors();
        due("constructors", all.length, 1);
        due("the constructor", Modifier.isPublic(all[0].getModifiers()) && all[0].getParameterCount() == 0, true);
    }

    private static void exceptions() throws Exception {
        for (String name : new String[] {"octet", "told"}) {
            for (Method m : ClueRoom.class.getMethods()) {
                if (m.getName().equals(name)) due(name + " throws", m.getExceptionTypes()[0], NoSuchElementException.class);
            }
        }
    }

    private static void classesInside() {
        Class<?>[] inside = ClueRoom.class.getDeclaredClasses();
        due("at most twelve classes", inside.length + 1 <= 12, true);
        for (Class<?> c : inside) {
            due(c + " is static and not public", Modifier.isStatic(c.getModifiers()) && !Modifier.isPublic(c.getModifiers()), true);
            countMembers(c);
        }
        countMembers(ClueRoom.class);
    }

    private static void countMembers(Class<?> c) {
        int fields = 0;
        for (Field f : c.getDeclaredFields()) {
            if (Modifier.isStatic(f.getModifiers())) due(f + " is final", Modifier.isFinal(f.getModifiers()), true);
            else fields++;
        }
        due(c + " has twenty fields at most", fields <= 20, true);
        for (Method m : c.getDeclaredMethods()) due(m + " has seven parameters at most", m.getParameterCount() <= 7, true);
    }

    private static void source() throws Exception {
        int opened = -1;
        int number = 0;
        for (String line : Files.readAllLines(Path.of("src/main/java/ClueRoom.java"))) {
            number++;
            String text = line.trim();
            if (text.startsWith("*") || text.startsWith("/*") || text.startsWith("//")) continue;
            for (String word : FORBIDDEN) due("line " + number + " has " + word, has(text, word), false);
            boolean method = line.matches(" {4,8}(private |public |static |final )*[a-zA-Z\\[\\]]+ [a-zA-Z0-9]+\\(.*\\{");
            if (method) opened = number;
            if (opened > 0 && line.matches(" {4,8}}")) {
                due("the method at line " + opened + " is short", number - opened < 60, true);
                opened = -1;
            }
        }
    }

    /** Of the library only what rule 4 lists, and signs 1 to 127. */
    private static void library() throws Exception {
        String text = Files.readString(Path.of("src/main/java/ClueRoom.java"));
        due("signs 1 to 127", text.chars().allMatch(x -> x >= 1 && x <= 127), true);
        due("imports", find(text, "(?m)^import [^;]*;"), List.of("import java.util.Arrays;", "import java.util.NoSuchElementException;"));
        for (String call : find(text, "\\b(Arrays|System|Math|Integer|Long|String|StringBuilder|List|ArrayList)\\.[a-zA-Z]+\\(")) {
            due("the library has " + call, List.of("Arrays.fill(", "System.arraycopy(", "Math.max(", "Math.min(").contains(call), true);
        }
        for (String thrown : find(text, "throw .*")) due(thrown, thrown, "throw new NoSuchElementException();");
    }

    private static List<String> find(String text, String pattern) {
        List<String> all = new ArrayList<>();
        java.util.regex.Matcher m = java.util.regex.Pattern.compile(pattern).matcher(text);
        while (m.find()) all.add(m.group());
        return all;
    }

    private static boolean has(String text, String word) {
        if (!word.matches("[a-z]+")) return text.contains(word);
        return text.matches(".*\\b" + word + "\\b.*");
    }

    /** All objects and arrays that a room holds, and their fields and elements. */
    private static void elements() throws Exception {
        Map<Object, Object> seen = new IdentityHashMap<>();
        List<Object> open = new ArrayList<>();
        open.add(new ClueRoom());
        long held = 0;
        while (!open.isEmpty()) {
            Object o = open.remove(open.size() - 1);
            if (o == null || o instanceof String || seen.put(o, o) != null) continue;
            if (o.getClass().isArray()) {
                held += Array.getLength(o);
                continue;
            }
            for (Field f : o.getClass().getDeclaredFields()) {
                if (Modifier.isStatic(f.getModifiers())) continue;
                held++;
                f.setAccessible(true);
                if (!f.getType().isPrimitive()) open.add(f.get(o));
            }
        }
        System.out.println(seen.size() + " objects and arrays, " + held + " fields and elements in a room");
        due("some hundred objects", seen.size() < 200, true);
        due("far fewer elements than there may be", held < 100000, true);
    }
}
