import java.io.IOException;
import java.lang.management.ManagementFactory;
import java.lang.reflect.Array;
import java.lang.reflect.Constructor;
import java.lang.reflect.Field;
import java.lang.reflect.Method;
import java.lang.reflect.Modifier;
import java.nio.charset.StandardCharsets;
import java.nio.file.Files;
import java.nio.file.Path;
import java.util.ArrayDeque;
import java.util.ArrayList;
import java.util.Arrays;
import java.util.Collections;
import java.util.IdentityHashMap;
import java.util.List;
import java.util.Set;
import java.util.TreeSet;
import java.util.regex.Matcher;
import java.util.regex.Pattern;

/** The rules of LANGUAGE.md that a program can look at, and how much room an object takes. */
public final class EndlessRowsRulesTest {
    private static final String SOURCE = "src/main/java/EndlessRows.java";
    private static final String FACE = "alike(int,int) act(int,int,int) begin(int) cell(int,int,int) count(int) "
        + "differ(int,int) drop(int) feed(int,long) forge(int,int,int) grown(int,int,int) holds(int,long,long,long) "
        + "kind(int) letter(int,long) machine(int,int,int,int) many(int) next(int,long) pair(int,int,int) question() "
        + "ring(int,int,int,int) sheet(int,int,int) sought(int) status() step(int,int,int) takes(int,int) told(int,int) "
        + "trace(int) values(int,long) width(int)";
    private static int wrong = 0;

    public static void main(String[] args) throws IOException, IllegalAccessException {
        String source = Files.readString(Path.of(SOURCE), StandardCharsets.ISO_8859_1);
        words(source);
        face();
        methods(source);
        int before = room(used(0));
        int after = room(used(1));
        tell(before == after, "the room that an object takes grows from " + before + " to " + after);
        tell(before < 200000, "an object takes " + before + " fields and elements");
        made();
        System.out.println("rules: " + wrong + " broken; an object takes " + before + " fields and elements");
        System.exit(wrong > 0 ? 1 : 0);
    }

    private static void tell(boolean holds, String what) {
        if (!holds) {
            wrong++;
            System.out.println("not so: " + what);
        }
    }

    private static String bare(String source) {
        return source.replaceAll("/\\*[\\s\\S]*?\\*/", " ").replaceAll("//[^\n]*", " ")
            .replaceAll("\"[^\"\n]*\"", "\"\"").replaceAll("'[^'\n]'", "' '");
    }

    private static void words(String source) {
        for (int i = 0; i < source.length(); i++) {
            char c = source.charAt(i);
            if (c != '\n' && (c < 32 || c > 126)) {
                tell(false, "a sign " + (int) c + " at " + i);
                return;
            }
        }
        String bare = bare(source);
        String[] none = {"\\bthrow\\b", "\\bthrows\\b", "\\btry\\b", "\\bcatch\\b", "\\bfinally\\b", "\\bsynchronized\\b",
            "\\bassert\\b", "\\bvolatile\\b", "\\bnative\\b", "\\bpackage\\b", "->", "::", "@", "\\bstatic\\s*\\{",
            "\\bprotected\\b", "Exact\\b", "\\bMap\\b", "\\bSystem\\.(?!arraycopy\\b)", "\\bequals\\s*\\(",
            "\\bhashCode\\b", "\\btoString\\b", "\\bvar\\b", "\\bObject\\b", "\\bRandom\\b", "\\bThread\\b",
            "\\bdouble\\b", "\\bfloat\\b", "\"\"\\s*\\+", "\\+\\s*\"\"", "while\\s*\\(true\\)", "for\\s*\\(;"};
        for (String word : none) {
            tell(!Pattern.compile(word).matcher(bare).find(), "none of " + word);
        }
        Matcher imports = Pattern.compile("(?m)^import (.*);").matcher(bare);
        while (imports.find()) {
            tell(imports.group(1).equals("java.util.Arrays"), "no import of " + imports.group(1));
        }
        Matcher library = Pattern.compile("\\b(Arrays|Math|Integer|Long|System|String)\\.(\\w+)").matcher(bare);
        Set<String> known = Set.of("Arrays.fill", "Math.min", "Math.max", "Math.floorMod", "Integer.bitCount",
            "System.arraycopy");
        while (library.find()) {
            tell(known.contains(library.group()), "no call of " + library.group());
        }
    }

    private static String told(Method method) {
        List<String> types = new ArrayList<>();
        for (Class<?> type : method.getParameterTypes()) {
            types.add(type.getSimpleName());
        }
        return method.getName() + "(" + String.join(",", types) + ")";
    }

    private static void face() {
        Class<?> face = EndlessRows.class;
        tell(Modifier.isFinal(face.getModifiers()) && Modifier.isPublic(face.getModifiers()), "public final");
        Set<String> names = new TreeSet<>();
        Set<String> told = new TreeSet<>();
        for (Method method : face.getDeclaredMethods()) {
            if (Modifier.isPublic(method.getModifiers())) {
                told.add(told(method));
                names.add(method.getName());
            } else {
                tell(Modifier.isPrivate(method.getModifiers()), method.getName() + " is private");
            }
        }
        tell(told.equals(new TreeSet<>(Arrays.asList(FACE.split(" ")))), "the face is " + told);
        for (Field field : face.getDeclaredFields()) {
            boolean constant = field.getName().equals("NONE") && Modifier.isPublic(field.getModifiers());
            tell(constant || Modifier.isPrivate(field.getModifiers()), field.getName() + " is private");
        }
        Constructor<?>[] constructors = face.getDeclaredConstructors();
        tell(constructors.length == 1 && constructors[0].getParameterCount() == 0
            && Modifier.isPublic(constructors[0].getModifiers()), "one public constructor");
        List<Class<?>> all = new ArrayList<>(Arrays.asList(face.getDeclaredClasses()));
        tell(all.size() <= 12, "classes inside: " + all.size());
        all.add(face);
        for (Class<?> type : all) {
            int fields = 0;
            for (Field field : type.getDeclaredFields()) {
                boolean still = Modifier.isStatic(field.getModifiers());
                tell(!still || Modifier.isFinal(field.getModifiers()), field + " is final");
                fields += still ? 0 : 1;
            }
            tell(fields <= 20, type.getName() + " has fields: " + fields);
            for (Method method : type.getDeclaredMethods()) {
                tell(method.getParameterCount() <= 7, method + " takes at most seven");
                boolean named = names.contains(method.getName()) && !Modifier.isPublic(method.getModifiers());
                tell(!named, method + " bears the name of a public one");
            }
            tell(type == face || Modifier.isStatic(type.getModifiers()), type + " is static");
        }
    }

    // No method has more than sixty lines.
    private static void methods(String source) {
        String[] lines = source.split("\n");
        int from = -1;
        String indent = "";
        for (int i = 0; i < lines.length; i++) {
            tell(lines[i].length() <= 120, "line " + (i + 1) + " is long");
            Matcher head = Pattern.compile("^((?:    )+)[^ /*].*\\) \\{$").matcher(lines[i]);
            boolean method = head.find() && !lines[i].matches(".*\\b(if|for|while|switch|else)\\b.*");
            if (method) {
                from = i;
                indent = head.group(1);
            } else if (from >= 0 && lines[i].equals(indent + "}")) {
                tell(i - from < 60, "the method of line " + (from + 1) + " has lines: " + (i - from + 1));
                from = -1;
            }
        }
    }

    private static void ask(EndlessRows x, String text) {
        for (int at = 0; at < text.length(); at += 8) {
            long bytes = 0;
            for (int i = 0; i < 8; i++) {
                bytes |= (at + i < text.length() ? (long) text.charAt(at + i) : ' ') << 8 * i;
            }
            x.feed(8, bytes);
        }
        x.question();
    }

    private static final String[] TEXTS = {"a < b", "is b (a + a < c + b + 53 or r0[a + b] = 0)", "all a is b (a < b)",
        "r0[a + 2] = r0[b + c] and a + b < c", "a + b = c + d", "((((((((((", "r1[a] = r0[a] so r1[b] = 2"};

    /** An object that has been used, if turns is above 0. */
    private static EndlessRows used(int turns) {
        EndlessRows x = new EndlessRows();
        for (int turn = 0; turn < turns; turn++) {
            use(x, 2 + turn % 2);
        }
        return x;
    }

    private static void use(EndlessRows x, int base) {
        x.begin(base);
        x.sheet(0, 0, 24);
        x.cell(0, 1, 1);
        x.grown(0, 0, 2);
        x.ring(0, 0, 3, 4);
        x.machine(0, 0, 0, 2);
        x.pair(0, 1, 1);
        for (String text : TEXTS) {
            ask(x, text);
        }
        ask(x, "r0[a + 1] = 1");
        x.sought(7);
        for (int i = 0; i < 8; i++) {
            x.next(i, 5);
            x.many(i);
            x.values(i, 1 << 30);
            x.holds(i, 1L << 62, 7, 9);
            x.alike(i, 7);
            x.differ(i, 0);
            x.letter(i, 1L << 61);
            x.act(i, 3, i);
            x.trace(i);
            x.forge(i, i, i);
            x.told(i, 8);
            x.step(i, 0, 1);
            x.takes(i, 0);
        }
        x.drop(0);
        x.drop(1);
    }

    private static int room(Object whole) throws IllegalAccessException {
        Set<Object> met = Collections.newSetFromMap(new IdentityHashMap<>());
        ArrayDeque<Object> todo = new ArrayDeque<>();
        todo.add(whole);
        met.add(whole);
        int room = 0;
        while (!todo.isEmpty()) {
            Object one = todo.poll();
            List<Object> parts = new ArrayList<>();
            if (one.getClass().isArray()) {
                room += Array.getLength(one);
                for (int i = 0; i < Array.getLength(one) && !one.getClass().getComponentType().isPrimitive(); i++) {
                    parts.add(Array.get(one, i));
                }
            } else {
                for (Field field : one.getClass().getDeclaredFields()) {
                    if (!Modifier.isStatic(field.getModifiers())) {
                        room++;
                        field.setAccessible(true);
                        parts.add(field.getType().isPrimitive() ? null : field.get(one));
                    }
                }
            }
            for (Object part : parts) {
                if (part != null && met.add(part)) {
                    todo.add(part);
                }
            }
        }
        return room;
    }

    // What calls make besides what the constructor made: nothing.
    private static void made() {
        com.sun.management.ThreadMXBean threads = (com.sun.management.ThreadMXBean) ManagementFactory.getThreadMXBean();
        EndlessRows x = new EndlessRows();
        use(x, 3);
        long before = threads.getThreadAllocatedBytes(Thread.currentThread().getId());
        for (int turn = 0; turn < 20; turn++) {
            use(x, 2 + turn % 2);
        }
        long made = threads.getThreadAllocatedBytes(Thread.currentThread().getId()) - before;
        tell(made < 20000, "calls make nothing, but made bytes: " + made);
    }
}
