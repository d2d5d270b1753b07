import java.io.IOException;
import java.lang.management.ManagementFactory;
import java.lang.reflect.Array;
import java.lang.reflect.Constructor;
import java.lang.reflect.Field;
import java.lang.reflect.Method;
import java.lang.reflect.Modifier;
import java.nio.file.Files;
import java.nio.file.Path;
import java.util.ArrayDeque;
import java.util.Arrays;
import java.util.Collections;
import java.util.Deque;
import java.util.IdentityHashMap;
import java.util.List;
import java.util.Set;
import java.util.TreeSet;
import java.util.regex.Matcher;
import java.util.regex.Pattern;

/** The face, the rules of LANGUAGE.md that can be looked up, and how much room an object takes. */
public final class LanguageTest {
    private static final Path SOURCE = Path.of("src/main/java/KnowledgeRoom.java");
    private static final String FACE = "alone(int,int) atom(int,int,boolean) back() change(int,int)"
        + " contract() count(int) decide(int) differ(int,int) event() formula() four(int) happen()"
        + " holds(int) letter(int) noEvents() reduce() say() tell() tie(int,int,int)"
        + " tieEvents(int,int,int) told(int,int) type(int) world(int) worlds()";

    private LanguageTest() {
    }

    private static void face() {
        Set<String> open = new TreeSet<>();
        for (Method method : KnowledgeRoom.class.getDeclaredMethods()) {
            if (!Modifier.isPrivate(method.getModifiers())) {
                StringBuilder types = new StringBuilder();
                for (Class<?> type : method.getParameterTypes()) {
                    types.append(types.length() == 0 ? "" : ",").append(type.getName());
                }
                open.add(method.getName() + "(" + types + ")");
                Check.due(method + " is public", Modifier.PUBLIC, method.getModifiers());
                Check.due(method + " answers", "int", method.getReturnType().getName());
            }
        }
        Check.due("the methods", FACE, String.join(" ", open));
        Set<String> fields = new TreeSet<>();
        for (Field field : KnowledgeRoom.class.getDeclaredFields()) {
            if (!Modifier.isPrivate(field.getModifiers())) {
                fields.add(field.getName());
            }
        }
        Check.due("the constants", "BAD GREAT NONE", String.join(" ", fields));
        Constructor<?>[] made = KnowledgeRoom.class.getDeclaredConstructors();
        Check.due("one constructor", 1, made.length);
        Check.due("it is public", Modifier.PUBLIC, made[0].getModifiers());
        Check.due("the class", Modifier.PUBLIC | Modifier.FINAL, KnowledgeRoom.class.getModifiers());
    }

    private static void classes() {
        Set<String> faceNames = new TreeSet<>();
        for (String one : FACE.split(" ")) {
            faceNames.add(one.substring(0, one.indexOf('(')));
        }
        Class<?>[] inside = KnowledgeRoom.class.getDeclaredClasses();
        Check.due("at most twelve classes", 1, inside.length + 1 <= 12 ? 1 : 0);
        Class<?>[] all = Arrays.copyOf(inside, inside.length + 1);
        all[inside.length] = KnowledgeRoom.class;
        for (Class<?> one : all) {
            int fields = 0;
            for (Field field : one.getDeclaredFields()) {
                boolean isStatic = Modifier.isStatic(field.getModifiers());
                Check.due(field + ", if static, is final", 1,
                    !isStatic || Modifier.isFinal(field.getModifiers()) ? 1 : 0);
                fields += isStatic ? 0 : 1;
            }
            Check.due(one + " has at most 20 fields", 1, fields <= 20 ? 1 : 0);
            for (Method method : one.getDeclaredMethods()) {
                Check.due(method + " takes at most 7", 1, method.getParameterCount() <= 7 ? 1 : 0);
                boolean named = faceNames.contains(method.getName());
                Check.due(method + " has a name of its own", one == KnowledgeRoom.class
                    && Modifier.isPublic(method.getModifiers()) ? 1 : 0, named ? 1 : 0);
            }
            if (one != KnowledgeRoom.class) {
                Check.due(one + " is static", 1, Modifier.isStatic(one.getModifiers()) ? 1 : 0);
            }
        }
    }

    private static String code() throws IOException {
        String code = Files.readString(SOURCE);
        code = code.replaceAll("(?s)/\\*.*?\\*/", " ").replaceAll("//[^\n]*", " ");
        return code.replaceAll("'(\\\\.|[^'\\\\])'", "0").replaceAll("\"(\\\\.|[^\"\\\\])*\"", "\"\"");
    }

    private static void words() throws IOException {
        String code = code();
        String[] never = {"throw", "throws", "try", "catch", "finally", "synchronized", "assert",
            "instanceof", "double", "float", "protected", "Object", "Exception", "System\\.(?!arraycopy)",
            "Math\\.\\w+Exact", "->", "::", "random", "Random", "Thread", "equals", "hashCode", "toString"};
        for (String word : never) {
            Matcher matcher = Pattern.compile(Character.isLetter(word.charAt(0)) ? "\\b" + word : word).matcher(code);
            Check.due("the word " + word, 0, matcher.find() ? 1 : 0);
        }
        Matcher imports = Pattern.compile("import ([^;]*);").matcher(code);
        while (imports.find()) {
            Check.due("imported " + imports.group(1), "java.util.Arrays", imports.group(1));
        }
        Matcher method = Pattern.compile("(?s)\n( +)(?:\\w+ )*[\\w\\[\\]]+ ?\\w*\\([^;{}()]*\\) \\{\n(.*?)\n\\1\\}").matcher(code);
        int methods = 0;
        while (method.find()) {
            int lines = method.group(2).split("\n").length;
            Check.due("a method of " + lines + " lines", 1, lines <= 60 ? 1 : 0);
            methods++;
        }
        Check.due("methods were found", 1, methods > 100 ? 1 : 0);
    }

    /** Counts objects and arrays, and their fields and elements. */
    private static long[] sizeOf(Object start) throws IllegalAccessException {
        Set<Object> known = Collections.newSetFromMap(new IdentityHashMap<>());
        Deque<Object> open = new ArrayDeque<>(List.of(start));
        known.add(start);
        long parts = 0;
        while (!open.isEmpty()) {
            Object one = open.pop();
            if (one.getClass().isArray()) {
                int length = Array.getLength(one);
                parts += length;
                for (int i = 0; i < length && one instanceof Object[]; i++) {
                    visit(Array.get(one, i), known, open);
                }
                continue;
            }
            for (Field field : one.getClass().getDeclaredFields()) {
                if (!Modifier.isStatic(field.getModifiers())) {
                    parts++;
                    field.setAccessible(true);
                    if (!field.getType().isPrimitive()) {
                        visit(field.get(one), known, open);
                    }
                }
            }
        }
        return new long[] {known.size(), parts};
    }

    private static void visit(Object one, Set<Object> known, Deque<Object> open) {
        if (one != null && known.add(one)) {
            open.push(one);
        }
    }

    private static void room() throws IllegalAccessException {
        long[] size = sizeOf(new KnowledgeRoom());
        System.out.println("an object: " + size[0] + " objects and arrays, " + size[1] + " fields and elements");
        Check.due("few objects", 1, size[0] <= 1000 ? 1 : 0);
        Check.due("few elements", 1, size[1] <= 70000 ? 1 : 0);
    }

    /** What calls make is never freed where the class is to run: so they make nothing. */
    private static void callsMakeNothing() {
        com.sun.management.ThreadMXBean threads =
            (com.sun.management.ThreadMXBean) ManagementFactory.getThreadMXBean();
        long self = Thread.currentThread().getId();
        long least = Long.MAX_VALUE;
        for (int i = 0; i < 5; i++) {
            KnowledgeRoom room = new KnowledgeRoom();
            long before = threads.getThreadAllocatedBytes(self);
            busy(room);
            least = Math.min(least, threads.getThreadAllocatedBytes(self) - before);
        }
        Check.due("calls make few bytes", 1, least <= 500 ? 1 : 0);
    }

    private static void put(KnowledgeRoom room, String text) {
        for (int i = 0; i < text.length(); i++) {
            room.type(text.charAt(i));
        }
        room.formula();
    }

    private static void busy(KnowledgeRoom room) {
        for (int w = 0; w < 8; w++) {
            room.world(w);
            room.tie(1 + w % 4, w, w / 2);
        }
        put(room, "C12(a|b)>K1[a]P2b");
        room.worlds();
        room.event();
        room.event();
        room.change(0, 3);
        room.tieEvents(1, 0, 1);
        room.happen();
        room.contract();
        room.differ(0, 1);
        room.say();
        room.back();
        room.tell();
        put(room, "[a&b]K1[b|c]K2[c&a]K3[K1a]K2[P1b]K1a");
        room.reduce();
        room.holds(0);
        room.tell();
        room.decide(0);
        put(room, "E123a&C1234(b|P1c)");
        room.decide(4);
        room.alone(1, 0);
        room.atom(0, 0, true);
        room.four(0x61626364);
        room.formula();
        room.count(5);
        room.noEvents();
    }

    public static void main(String[] args) throws Exception {
        face();
        classes();
        words();
        room();
        callsMakeNothing();
        Check.end();
    }
}
