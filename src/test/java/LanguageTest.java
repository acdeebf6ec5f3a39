import java.lang.reflect.Constructor;
import java.lang.reflect.Field;
import java.lang.reflect.Method;
import java.lang.reflect.Modifier;
import java.nio.file.Files;
import java.nio.file.Path;
import java.util.Set;
import java.util.TreeSet;
import java.util.regex.Pattern;

/** The face of the document and those rules of LANGUAGE.md that can be seen from outside the code. */
public final class LanguageTest {
    private static final String[] FACE = {
        "int manner(int)", "int resolution(int,int)", "int node()", "int arc(int,int,int)", "int drop(int)",
        "int clear()", "int put(int,int)", "int group(int)", "long value()", "long part(int)",
        "long move(int,int)", "long merge(int,int)", "int rests()", "int joined()", "int best()", "int ties()",
        "int merged(int)", "int mergedBest()", "int labels(int)", "int together(int,int)", "int plateaus()",
        "long begins(int,int)", "int plateau(int)",
    };
    private static final String[] BARRED = {
        "throw", "throws", "try", "catch", "synchronized", "assert", "equals", "hashCode", "toString", "->", "::",
        "package", "Exact", "System\\.(?!arraycopy)", "Thread", "Random", "var",
    };

    private final Checks checks = new Checks();

    public static void main(String[] args) throws Exception {
        LanguageTest test = new LanguageTest();
        test.face();
        test.nested();
        test.source(Files.readString(Path.of(args.length > 0 ? args[0] : "src/main/java/ModularGains.java")));
        test.checks.end();
    }

    private static String signature(Method method) {
        StringBuilder types = new StringBuilder();
        for (Class<?> type : method.getParameterTypes()) {
            types.append(types.length() == 0 ? "" : ",").append(type.getName());
        }
        return method.getReturnType().getName() + " " + method.getName() + "(" + types + ")";
    }

    private void face() {
        Set<String> open = new TreeSet<>();
        Set<String> openNames = new TreeSet<>();
        for (Method method : ModularGains.class.getDeclaredMethods()) {
            if (!Modifier.isPrivate(method.getModifiers())) {
                checks.holds(method + " is public", Modifier.isPublic(method.getModifiers()));
                open.add(signature(method));
                openNames.add(method.getName());
            }
        }
        checks.holds("the methods are the document's, not " + open, open.equals(new TreeSet<>(Set.of(FACE))));
        for (Method method : ModularGains.class.getDeclaredMethods()) {
            checks.holds(method + " has a name of its own",
                Modifier.isPublic(method.getModifiers()) || !openNames.contains(method.getName()));
        }
        for (Field field : ModularGains.class.getDeclaredFields()) {
            checks.holds(field + " is private", Modifier.isPrivate(field.getModifiers()));
        }
        Constructor<?>[] constructors = ModularGains.class.getDeclaredConstructors();
        checks.due("constructors", constructors.length, 1);
        checks.holds("the constructor is public", Modifier.isPublic(constructors[0].getModifiers()));
        checks.due("its parameters", constructors[0].getParameterCount(), 0);
        int modifiers = ModularGains.class.getModifiers();
        checks.holds("public and final", Modifier.isPublic(modifiers) && Modifier.isFinal(modifiers));
    }

    private void nested() {
        Class<?>[] classes = ModularGains.class.getDeclaredClasses();
        checks.holds("at most twelve classes", classes.length < 12);
        for (Class<?> one : classes) {
            checks.holds(one + " is static", Modifier.isStatic(one.getModifiers()));
            checks.holds(one + " is not open", !Modifier.isPublic(one.getModifiers()));
            int fields = 0;
            for (Field field : one.getDeclaredFields()) {
                boolean constant = Modifier.isStatic(field.getModifiers());
                checks.holds(field + " is final, if static", !constant || Modifier.isFinal(field.getModifiers()));
                fields += constant ? 0 : 1;
            }
            checks.holds(one + " has at most twenty fields", fields <= 20);
            for (Method method : one.getDeclaredMethods()) {
                checks.holds(method + " has at most seven parameters", method.getParameterCount() <= 7);
            }
        }
    }

    private void source(String text) {
        String code = text.replaceAll("(?s)/\\*.*?\\*/", " ").replaceAll("//[^\n]*", " ");
        for (String word : BARRED) {
            String edge = Character.isLetter(word.charAt(0)) && !word.equals("Exact") && !word.startsWith("System")
                ? "\\b" : "";
            checks.holds("no " + word, !Pattern.compile(edge + word + edge).matcher(code).find());
        }
        checks.due("imports", Pattern.compile("\\bimport\\b").matcher(code).results().count(), 1);
        checks.holds("only Arrays is imported", code.contains("import java.util.Arrays;"));
    }
}
