import java.lang.reflect.Array;
import java.lang.reflect.Constructor;
import java.lang.reflect.Field;
import java.lang.reflect.Member;
import java.lang.reflect.Method;
import java.lang.reflect.Modifier;
import java.nio.file.Files;
import java.nio.file.Path;
import java.util.IdentityHashMap;
import java.util.Map;
import java.util.Set;
import java.util.TreeSet;
import java.util.regex.Matcher;
import java.util.regex.Pattern;

/** The rules of LANGUAGE.md that can be seen in the face and in the source. */
public final class LanguageTest {
    private static final String FACE = "GuessBench() NONE:int at(int,int):int barred(int,int,int):long "
            + "corner(int,int):long corners():int cost(int,int):long count(int):int far(int,int,int):long "
            + "few(int,int):long free():int half(int,int):long level(int):long miss(int,int):long "
            + "pull(int,int):long row(int,int,int,int):int set(int,boolean):boolean sized(int,int):long "
            + "sizes(int):long start(int):boolean sum(int):long there(int):boolean weight(int,int):long "
            + "without(int,int,int):long ";
    private static final String[] FORBIDDEN = {
        "\\b(throw|throws|try|catch|synchronized|assert|import|package|protected|native)\\b",
        "\\b(double|float|Object|volatile|System)\\b", "->", "::", "Exact\\(",
        "while \\(true\\)", "for \\(;;\\)"
    };

    /** All that the class takes of the library. */
    private static final Set<String> LIBRARY = Set.of("Math.abs", "Integer.bitCount");
    /** What a run may make in all, and how many objects it could have if each call made a new one. */
    private static final long ROOM_OBJECTS = 600_000;
    private static final long ROOM_FIELDS = 7_300_000;
    private static final long CALLS = 512;

    private static int wrong = 0;

    public static void main(String[] args) throws Exception {
        face();
        nested();
        room();
        source(Files.readString(Path.of("src/main/java/GuessBench.java")));
        System.out.println(wrong == 0 ? "all rules are kept" : wrong + " rules are not kept");
        if (wrong != 0) {
            System.exit(1);
        }
    }

    private static void due(String rule, Object got, Object want) {
        if (!got.equals(want)) {
            wrong++;
            System.out.println(rule + ": " + got + ", due is " + want);
        }
    }

    private static boolean isSeen(Member member) {
        return !Modifier.isPrivate(member.getModifiers()) && !member.isSynthetic();
    }

    private static String types(Class<?>[] types) {
        StringBuilder text = new StringBuilder("(");
        for (Class<?> type : types) {
            text.append(text.length() > 1 ? "," : "").append(type.getSimpleName());
        }
        return text.append(")").toString();
    }

    private static void face() {
        Set<String> seen = new TreeSet<>();
        for (Field field : GuessBench.class.getDeclaredFields()) {
            if (isSeen(field)) {
                seen.add(field.getName() + ":" + field.getType());
            }
        }
        for (Method method : GuessBench.class.getDeclaredMethods()) {
            if (isSeen(method)) {
                seen.add(method.getName() + types(method.getParameterTypes()) + ":" + method.getReturnType());
                due("public", Modifier.isPublic(method.getModifiers()), true);
            }
        }
        for (Constructor<?> constructor : GuessBench.class.getDeclaredConstructors()) {
            if (isSeen(constructor)) {
                seen.add("GuessBench" + types(constructor.getParameterTypes()));
            }
        }
        StringBuilder text = new StringBuilder();
        for (String one : seen) {
            text.append(one).append(' ');
        }
        due("face", text.toString(), FACE);
        int modifiers = GuessBench.class.getModifiers();
        due("public final", Modifier.isFinal(modifiers) && Modifier.isPublic(modifiers), true);
    }

    private static void nested() {
        Set<String> open = new TreeSet<>();
        for (Method method : GuessBench.class.getMethods()) {
            open.add(method.getName());
        }
        Class<?>[] classes = GuessBench.class.getDeclaredClasses();
        due("at most twelve classes", classes.length <= 11, true);
        for (Class<?> one : classes) {
            due(one + " static", Modifier.isStatic(one.getModifiers()), true);
            for (Method method : one.getDeclaredMethods()) {
                due("name of " + method, open.contains(method.getName()), false);
                due("parameters of " + method, method.getParameterCount() <= 7, true);
            }
            fields(one);
        }
        fields(GuessBench.class);
    }

    private static void fields(Class<?> one) {
        int own = 0;
        for (Field field : one.getDeclaredFields()) {
            if (Modifier.isStatic(field.getModifiers())) {
                due("final " + field, Modifier.isFinal(field.getModifiers()), true);
            } else {
                own++;
            }
        }
        due("at most twenty fields of " + one, own <= 20, true);
    }

    /** Rule 12 and the run's one room: calls make nothing (RobustTest), so an object's own parts are all. */
    private static void room() throws IllegalAccessException {
        GuessBench bench = new GuessBench();
        Map<Object, Boolean> parts = new IdentityHashMap<>();
        long fields = countParts(bench, parts);
        due("room for objects", parts.size() * CALLS <= ROOM_OBJECTS, true);
        due("room for fields and elements", fields * CALLS <= ROOM_FIELDS, true);
    }

    private static long countParts(Object part, Map<Object, Boolean> parts) throws IllegalAccessException {
        if (part == null || parts.put(part, true) != null) {
            return 0;
        }
        if (part.getClass().isArray()) {
            return Array.getLength(part);
        }
        long fields = 0;
        for (Field field : part.getClass().getDeclaredFields()) {
            if (!Modifier.isStatic(field.getModifiers())) {
                field.setAccessible(true);
                fields += 1 + (field.getType().isPrimitive() ? 0 : countParts(field.get(part), parts));
            }
        }
        return fields;
    }

    /** Rule 4: every class that is named is the file's own, or stands in the list. */
    private static void library(String code) {
        Set<String> own = new TreeSet<>(Set.of("GuessBench"));
        for (Class<?> one : GuessBench.class.getDeclaredClasses()) {
            own.add(one.getSimpleName());
        }
        Matcher matcher = Pattern.compile("\\b([A-Z]\\w*[a-z]\\w*)(\\.\\w+)?").matcher(code);
        while (matcher.find()) {
            boolean isFine = own.contains(matcher.group(1)) || LIBRARY.contains(matcher.group());
            due("library: " + matcher.group(), isFine, true);
        }
    }

    private static void source(String text) {
        String code = text.replaceAll("(?s)/\\*.*?\\*/", "").replaceAll("//[^\n]*", "");
        library(code);
        for (String word : FORBIDDEN) {
            due("no " + word, Pattern.compile(word).matcher(code).find(), false);
        }
        methodsAreShort(code.split("\n"));
    }

    private static void methodsAreShort(String[] lines) {
        Pattern head = Pattern.compile("( {4}| {8})[A-Za-z].*\\) \\{");
        String end = null;
        int from = 0;
        for (int i = 0; i < lines.length; i++) {
            Matcher matcher = head.matcher(lines[i]);
            if (end == null && matcher.matches()) {
                end = matcher.group(1) + "}";
                from = i;
            } else if (end != null && lines[i].equals(end)) {
                due("lines from " + lines[from], i - from < 60, true);
                end = null;
            }
        }
    }
}
