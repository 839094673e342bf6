import java.io.IOException;
import java.lang.reflect.Array;
import java.lang.reflect.Constructor;
import java.lang.reflect.Field;
import java.lang.reflect.Method;
import java.lang.reflect.Modifier;
import java.nio.charset.StandardCharsets;
import java.nio.file.Files;
import java.nio.file.Path;
import java.util.Arrays;
import java.util.Collections;
import java.util.IdentityHashMap;
import java.util.Set;
import java.util.TreeSet;
import java.util.regex.Matcher;
import java.util.regex.Pattern;

/** Looks at the class and its source for what LANGUAGE.md rules out and can be seen by simple means. */
public final class LanguageTest {
    private static final String FACE = "feed(int,int,int,int,int)int fete(int)int fault(int)int guesser(int,int)int "
            + "sight(int,int)int weight(int)int jar(int)int write(int,int)int strike(int)int list(int,int)int "
            + "judge(int,int)int perform(int)int come(int,int)int leader(int)int winner()int wins(int,int)int "
            + "mean(int)int nearest()int odds(int,int)long out(int)long likeliest(int)int span(int,int)int "
            + "expect(int,int)long copied(int,int)long copier(int)int chance(int,int)long best(int,int)long "
            + "bestTwo(int,int)long behind(int,int)long waits(int,int)long waysOf(int,int)long shutIn(int,int)long "
            + "gain(int,int)long buys(int)int game(int,int)int alone(int,int,int)long fewest(int,int,int)int "
            + "fetes(int,int,int,boolean,int)int holds(int,int,int)int layersFor(int,int,int)int "
            + "numbers(int,int,int)int put(int,int,long)long copy(int)int image(int)int restore(int)int count(int)int";
    private static final String[] FORBIDDEN = {"\\bthrow\\b", "\\bthrows\\b", "\\btry\\b", "\\bcatch\\b", "\\bfinally\\b",
            "\\bsynchronized\\b", "\\bassert\\b", "->", "::", "\\bimport\\b", "\\bpackage\\b", "Exact\\b", "\\bprotected\\b",
            "\\bvolatile\\b", "\\bnative\\b", "\\bThread\\b", "\\bRandom\\b", "System\\.(?!arraycopy\\b)", "\\bhashCode\\b",
            "\\btoString\\b", "static\\s*\\{", "\\bstatic\\s+(?!final\\b)[\\w\\[\\]]+\\s+\\w+\\s*[=;]", "\\bObject\\b"};
    private static int wrong = 0;

    private static void fail(String what) {
        wrong++;
        System.out.println(what);
    }

    public static void main(String[] args) throws IOException, IllegalAccessException {
        face();
        nested();
        room();
        String source = Files.readString(Path.of("src/main/java/JarGuess.java"), StandardCharsets.ISO_8859_1);
        String code = source.replaceAll("(?s)/\\*.*?\\*/", "").replaceAll("//[^\n]*", "")
                .replaceAll("\"[^\"\n]*\"", "\"\"").replaceAll("'[^'\n]+'", "' '");
        for (String forbidden : FORBIDDEN) {
            Matcher found = Pattern.compile(forbidden).matcher(code);
            if (found.find()) {
                fail("the source has " + found.group());
            }
        }
        lengths(source);
        System.out.println(wrong == 0 ? "the language is kept to" : wrong + " breaches of the language");
        if (wrong != 0) {
            System.exit(1);
        }
    }

    private static void face() {
        if (!Modifier.isPublic(JarGuess.class.getModifiers()) || !Modifier.isFinal(JarGuess.class.getModifiers())) {
            fail("the class isn't public and final");
        }
        Set<String> due = new TreeSet<>(Arrays.asList(FACE.split(" ")));
        Set<String> open = new TreeSet<>();
        Set<String> names = new TreeSet<>();
        for (Method method : JarGuess.class.getDeclaredMethods()) {
            if (Modifier.isPublic(method.getModifiers())) {
                open.add(signature(method));
                names.add(method.getName());
            } else if (!Modifier.isPrivate(method.getModifiers())) {
                fail("the method " + method.getName() + " is neither public nor private");
            }
        }
        if (!open.equals(due)) {
            fail("the public methods are " + open + ", due are " + due);
        }
        for (Method method : JarGuess.class.getDeclaredMethods()) {
            if (Modifier.isPrivate(method.getModifiers()) && names.contains(method.getName())) {
                fail("the private method " + method.getName() + " bears the name of a public one");
            }
        }
        for (Field field : JarGuess.class.getDeclaredFields()) {
            if (!Modifier.isPrivate(field.getModifiers()) && !field.getName().equals("NONE")) {
                fail("the field " + field.getName() + " isn't private");
            }
        }
        Constructor<?>[] makers = JarGuess.class.getDeclaredConstructors();
        if (makers.length != 1 || makers[0].getParameterCount() != 0 || !Modifier.isPublic(makers[0].getModifiers())) {
            fail("there isn't just the one public constructor");
        }
    }

    private static String signature(Method method) {
        StringBuilder text = new StringBuilder(method.getName()).append('(');
        for (Class<?> type : method.getParameterTypes()) {
            text.append(text.charAt(text.length() - 1) == '(' ? "" : ",").append(type.getName());
        }
        return text.append(')').append(method.getReturnType().getName()).toString();
    }

    private static void nested() {
        Class<?>[] inside = JarGuess.class.getDeclaredClasses();
        if (inside.length > 11) {
            fail("more than twelve classes");
        }
        for (Class<?> one : inside) {
            if (!Modifier.isStatic(one.getModifiers()) || Modifier.isPublic(one.getModifiers())) {
                fail("the class " + one.getName() + " is public or not static");
            }
            int fields = 0;
            for (Field field : one.getDeclaredFields()) {
                fields += Modifier.isStatic(field.getModifiers()) ? 0 : 1;
            }
            if (fields > 20) {
                fail("the class " + one.getName() + " has " + fields + " fields");
            }
            for (Method method : one.getDeclaredMethods()) {
                if (method.getParameterCount() > 7) {
                    fail("the method " + method.getName() + " takes more than seven parameters");
                }
                if (FACE.contains(" " + method.getName() + "(") || method.getName().equals("feed")) {
                    fail("the method " + method.getName() + " of " + one.getName() + " bears the name of a public one");
                }
            }
        }
    }

    /** All calls of a run live in one room: an object is small, and no call makes it grow. */
    private static void room() throws IllegalAccessException {
        JarGuess x = new JarGuess();
        Set<Object> held = Collections.newSetFromMap(new IdentityHashMap<>());
        int size = hold(x, held);
        int objects = held.size();
        if (objects > 60 || size > 4000) {
            fail("an object holds " + objects + " objects of " + size + " fields and elements");
        }
        x.feed(0x67756573, 0x73657220, 0x39302032, 0x3b6a6172, 0x20373b20);
        x.fete(20);
        x.come(1, 40);
        x.bestTwo(4, 0);
        x.behind(4, 0);
        x.fetes(1, 40, 30, true, 0);
        x.numbers(0, 3, 40);
        x.image(1);
        held.clear();
        if (hold(x, held) != size || held.size() != objects) {
            fail("an object grew by its calls");
        }
    }

    private static int hold(Object one, Set<Object> held) throws IllegalAccessException {
        if (one == null || one instanceof String || one instanceof Number || one instanceof Boolean || !held.add(one)) {
            return 0;
        }
        if (one.getClass().isArray()) {
            int size = Array.getLength(one);
            for (int i = 0; i < Array.getLength(one) && !one.getClass().getComponentType().isPrimitive(); i++) {
                size += hold(Array.get(one, i), held);
            }
            return size;
        }
        int size = 0;
        for (Field field : one.getClass().getDeclaredFields()) {
            if (!Modifier.isStatic(field.getModifiers())) {
                field.setAccessible(true);
                size += 1 + (field.getType().isPrimitive() ? 0 : hold(field.get(one), held));
            }
        }
        return size;
    }

    /** By the indents that the source keeps to: a method ends with a brace below its own begin. */
    private static void lengths(String source) {
        String[] lines = source.split("\n");
        for (int i = 0; i < lines.length; i++) {
            Matcher begin = Pattern.compile("^( {4}| {8})(?! )(?!.*\\bclass\\b).*\\) \\{$").matcher(lines[i]);
            if (!begin.find()) {
                continue;
            }
            int end = i;
            while (end < lines.length && !lines[end].equals(begin.group(1) + "}")) {
                end++;
            }
            if (end - i > 60) {
                fail("the method at line " + (i + 1) + " has " + (end - i) + " lines");
            }
        }
    }
}
