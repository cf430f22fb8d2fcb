import java.lang.reflect.Array;
import java.lang.reflect.Constructor;
import java.lang.reflect.Field;
import java.lang.reflect.Method;
import java.lang.reflect.Modifier;
import java.nio.file.Files;
import java.nio.file.Path;
import java.util.ArrayDeque;
import java.util.Arrays;
import java.util.Collections;
import java.util.IdentityHashMap;
import java.util.Set;
import java.util.TreeSet;

/** The face as the document tells it, the rules of LANGUAGE.md that can be seen from outside, and the room. */
public final class LanguageTest {
    private static final Checks c = new Checks("LanguageTest");
    private static final Path SOURCE = Path.of("src/main/java/VowelChoir.java");
    private static final String[] FACE = {
        "int ahead(int,int) IA", "int alone(int) IA", "int beats(int) IA", "int bench()", "int benched(int) IA",
        "int book(int) IA", "int cast()", "int choir(int) IA", "int chorus(int) IA", "int count(int)",
        "int dearest(int) IA", "int duty(int) NS", "int fault()", "int feed(int,int,int,int,int)",
        "int handed(int,int) IA", "int idle()", "int image()", "int law(int) IA", "int like(int,int) NS IA",
        "int listen(int) IA", "int longest(int) IA", "int mute()", "int note(int,int) NS IA",
        "int quarrel(int,int,int) IA", "int range(int) NS", "int rent(int,int,int) NS IA", "int restore()",
        "int singer(int,int) NS IA", "int sounds(int) IA", "int span(int,int,int,int,int,int) IA",
        "int spare(int) IA", "int status(int)", "int sunday(int,int,int,int) IA", "int takes(int,int) NS",
        "int told(int) IA", "int undo()", "int voices(int) IA", "int who(int) IA", "int wording()", "int words(int) NS",
        "int work(int) IA", "int would(int,int,int,int,int,int,int,int) IA", "long enough(int,int,int,int) IA",
        "long wordings(int) IA"
    };

    public static void main(String[] args) throws Exception {
        face();
        classesInside();
        source();
        room();
        c.end();
    }

    private static String shape(Method m) {
        StringBuilder out = new StringBuilder();
        out.append(m.getReturnType().getSimpleName()).append(' ').append(m.getName()).append('(');
        for (int i = 0; i < m.getParameterCount(); i++) {
            out.append(i > 0 ? "," : "").append(m.getParameterTypes()[i].getSimpleName());
        }
        out.append(')');
        for (Class<?> thrown : m.getExceptionTypes()) {
            out.append(thrown == IllegalArgumentException.class ? " IA" : " NS");
        }
        return out.toString();
    }

    private static void face() {
        Set<String> shapes = new TreeSet<>();
        Set<String> open = new TreeSet<>();
        for (Method m : VowelChoir.class.getDeclaredMethods()) {
            if (Modifier.isPublic(m.getModifiers())) {
                shapes.add(shape(m));
                open.add(m.getName());
            }
        }
        c.holds("the face is the document's: " + shapes, shapes.equals(new TreeSet<>(Arrays.asList(FACE))));
        for (Method m : VowelChoir.class.getDeclaredMethods()) {
            int mods = m.getModifiers();
            c.holds(m + " is public or private", Modifier.isPublic(mods) || Modifier.isPrivate(mods));
            c.holds(m + " has a name of its own", Modifier.isPublic(mods) || !open.contains(m.getName()));
            c.holds(m + " takes seven at most", m.getParameterCount() <= (m.getName().equals("would") ? 8 : 7));
        }
        for (Field f : VowelChoir.class.getDeclaredFields()) {
            int mods = f.getModifiers();
            c.holds(f + " is NONE or private", f.getName().equals("NONE") || Modifier.isPrivate(mods));
            c.holds(f + " is final, if static", !Modifier.isStatic(mods) || Modifier.isFinal(mods));
        }
        Constructor<?>[] makers = VowelChoir.class.getDeclaredConstructors();
        c.same("constructors", makers.length, 1);
        c.holds("it is public", Modifier.isPublic(makers[0].getModifiers()));
        c.holds("the class is final", Modifier.isFinal(VowelChoir.class.getModifiers()));
    }

    private static void classesInside() {
        Class<?>[] inside = VowelChoir.class.getDeclaredClasses();
        c.holds("some twelve classes", inside.length <= 12);
        for (Class<?> k : inside) {
            c.holds(k + " is static", Modifier.isStatic(k.getModifiers()));
            int fields = 0;
            for (Field f : k.getDeclaredFields()) {
                fields += Modifier.isStatic(f.getModifiers()) ? 0 : 1;
                c.holds(f + " is final, if static",
                        !Modifier.isStatic(f.getModifiers()) || Modifier.isFinal(f.getModifiers()));
            }
            c.holds(k + " has some twenty fields", fields <= 20);
            for (Method m : k.getDeclaredMethods()) {
                c.holds(m + " takes seven at most", m.getParameterCount() <= 7);
                c.holds(m + " does not bear a name of the face", !Arrays.toString(FACE).contains(" " + m.getName() + "("));
            }
        }
    }

    private static void source() throws Exception {
        String text = Files.readString(SOURCE);
        String[] ruledOut = {"->", "::", "try ", "catch", "finally", "synchronized", "assert", "Exact", "package ",
            "hashCode", "toString", "instanceof", "System.out", "Thread", "float", "double", "@Override"};
        for (String word : ruledOut) {
            c.holds("without " + word, !text.contains(word));
        }
        for (String line : text.split("\n")) {
            boolean throwing = line.contains("throw new");
            c.holds("known exceptions: " + line, !throwing || line.contains("new IllegalArgumentException(\"")
                    || line.contains("new NoSuchElementException(\""));
            // Rows are made in constructors alone: fields, and the rows of objects that two of them fill.
            boolean making = line.contains("new ") && !throwing && !line.trim().startsWith("/");
            c.holds("made once: " + line, !making || line.matches(" {4,8}(private |final )?.* = new .*;")
                    && (line.startsWith("    private ") || line.startsWith("        private ")
                    || line.startsWith("        final ") || line.matches("        (Roll|Law) [a-z]+ = new .*"))
                    || line.matches(" {12,16}(images|before)\\[i\\] = new .*;"));
            c.holds("imports: " + line, !line.startsWith("import ") || line.contains("NoSuchElementException"));
        }
    }

    /** Counts what one object holds: its objects and arrays, its fields and elements. */
    private static long[] held(Object root) throws Exception {
        Set<Object> seen = Collections.newSetFromMap(new IdentityHashMap<>());
        ArrayDeque<Object> open = new ArrayDeque<>();
        long cells = 0;
        open.add(root);
        seen.add(root);
        while (!open.isEmpty()) {
            Object at = open.remove();
            if (at.getClass().isArray()) {
                cells += Array.getLength(at);
                if (at instanceof Object[]) {
                    for (Object o : (Object[]) at) {
                        if (o != null && seen.add(o)) {
                            open.add(o);
                        }
                    }
                }
                continue;
            }
            for (Field f : at.getClass().getDeclaredFields()) {
                if (Modifier.isStatic(f.getModifiers())) {
                    continue;
                }
                cells++;
                f.setAccessible(true);
                Object o = f.getType().isPrimitive() ? null : f.get(at);
                if (o != null && seen.add(o)) {
                    open.add(o);
                }
            }
        }
        return new long[] {seen.size(), cells};
    }

    private static void room() throws Exception {
        VowelChoir x = new VowelChoir();
        long[] before = held(x);
        System.out.println("LanguageTest: an object holds " + before[0] + " objects, " + before[1] + " cells");
        c.holds("few objects", before[0] < 1000);
        c.holds("few cells", before[1] < 12000);
        Checks.choir(x, WorkTest.CHOIR);
        for (int k = 0; k < 20; k++) {
            Checks.law(x, "length+sung%2");
            Checks.work(x, "again 3 [hymn;rest;];day;");
            Checks.book(x, "0 1;");
            x.image();
            x.span(k, 3, 9, 8, 0, 0);
            x.who(0);
            x.bench();
        }
        long[] behind = held(x);
        c.same("no more objects by calls", behind[0], before[0]);
        c.same("no more cells by calls", behind[1], before[1]);
    }
}
