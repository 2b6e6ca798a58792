import java.lang.reflect.Constructor;
import java.lang.reflect.Field;
import java.lang.reflect.Member;
import java.lang.reflect.Method;
import java.lang.reflect.Modifier;
import java.nio.file.Files;
import java.nio.file.Path;
import java.util.ArrayList;
import java.util.List;
import java.util.Set;
import java.util.TreeSet;
import java.util.regex.Matcher;
import java.util.regex.Pattern;

/** What LANGUAGE.md asks and can be read off the source text or the class: a net, not a proof. */
public final class LanguageTest {
    private static int wrong = 0;

    private static void check(boolean holds, String what) {
        if (!holds) {
            wrong++;
            System.out.println("not as LANGUAGE.md asks: " + what);
        }
    }

    /** The source without comments, and with empty texts. */
    private static String bare(String source) {
        return source.replaceAll("(?s)/\\*.*?\\*/", " ").replaceAll("\"(\\\\.|[^\"\\\\])*\"", "\"\"")
                .replaceAll("//[^\n]*", " ");
    }

    private static void checkWords(String source) {
        for (String word : List.of("throw", "throws", "try", "catch", "finally", "synchronized", "assert", "package", "native",
                "volatile", "transient", "Object", "System.out", "hashCode", "toString", "Random", "Thread", "var", "yield")) {
            check(!Pattern.compile("\\b" + Pattern.quote(word) + "\\b").matcher(source).find(), word);
        }
        check(!source.contains("->"), "no lambda");
        check(!source.contains("::"), "no method reference");
        Matcher imports = Pattern.compile("import ([^;]+);").matcher(source);
        while (imports.find()) {
            check(imports.group(1).equals("java.util.Arrays"), "import " + imports.group(1));
        }
        Matcher library = Pattern.compile("\\b(System|Arrays|Math|Integer|Long)\\.(\\w+)").matcher(source);
        Set<String> allowed = Set.of("System.arraycopy", "Arrays.fill", "Arrays.copyOf", "Math.max", "Math.min", "Integer.bitCount");
        while (library.find()) {
            check(allowed.contains(library.group()), library.group());
        }
        check(!Pattern.compile("static\\s*\\{").matcher(source).find(), "no static initialiser");
        check(!Pattern.compile("\\bnew\\s+\\w+\\s*\\([^()]*\\)\\s*\\{").matcher(source).find(), "no anonymous class");
        Matcher loops = Pattern.compile("while \\(true\\)|for \\(;;|for \\([^;]*;\\s*;").matcher(source);
        check(!loops.find(), "loops without an end");
    }

    private static void checkMethods(String source) {
        Pattern head = Pattern.compile("^ {4,8}(?:public |private |static |final )*[\\w\\[\\]]+ ?[\\w]*\\(([^)]*)\\) \\{$", Pattern.MULTILINE);
        Matcher m = head.matcher(source);
        int found = 0;
        while (m.find()) {
            found++;
            String parameters = m.group(1);
            check(parameters.isEmpty() || parameters.split(",").length <= 7, "parameters of " + m.group());
            String indent = m.group().replaceAll("\\S.*", "").replace("\n", "");
            int end = source.indexOf("\n" + indent + "}", m.end());
            check(end > 0 && source.substring(m.start(), end).split("\n").length <= 60, "length of " + m.group());
        }
        check(found > 100, "methods are found: " + found);
    }

    private static void checkFace() {
        Set<String> face = new TreeSet<>(List.of("feed", "end", "estate", "paper", "fault", "event", "told", "rule", "look", "orders",
                "item", "ahead", "law", "ring", "good", "counts", "undone", "ways", "goes", "how", "paid", "sum", "lack", "sure",
                "surely", "hangs", "outcomes", "ask", "says", "tells", "stories", "gain", "settle", "floor", "mend", "count"));
        Class<?> c = WhichWill.class;
        check(Modifier.isFinal(c.getModifiers()) && Modifier.isPublic(c.getModifiers()), "public and final");
        Set<String> methods = new TreeSet<>();
        for (Method method : c.getDeclaredMethods()) {
            if (Modifier.isPublic(method.getModifiers())) {
                check(methods.add(method.getName()), "one method " + method.getName());
                check(method.getReturnType() == int.class && !Modifier.isStatic(method.getModifiers()), method.getName());
            } else {
                check(Modifier.isPrivate(method.getModifiers()), "private " + method.getName());
                check(!face.contains(method.getName()), "private method with a public name " + method.getName());
            }
        }
        check(methods.equals(face), "the face: " + methods);
        Set<String> constants = new TreeSet<>();
        for (Field field : c.getDeclaredFields()) {
            if (Modifier.isPublic(field.getModifiers())) {
                constants.add(field.getName());
            } else {
                check(Modifier.isPrivate(field.getModifiers()), "private " + field.getName());
            }
        }
        check(constants.equals(Set.of("NONE", "RANGE", "FULL", "STATE")), "the constants: " + constants);
        Constructor<?>[] made = c.getDeclaredConstructors();
        check(made.length == 1 && made[0].getParameterCount() == 0 && Modifier.isPublic(made[0].getModifiers()), "constructor");
        checkInside(c, face);
    }

    private static void checkInside(Class<?> c, Set<String> face) {
        List<Class<?>> all = new ArrayList<>(List.of(c.getDeclaredClasses()));
        check(all.size() <= 11, "twelve classes");
        all.add(c);
        for (Class<?> one : all) {
            check(one == c || Modifier.isStatic(one.getModifiers()), "static " + one);
            int fields = 0;
            for (Field field : one.getDeclaredFields()) {
                if (Modifier.isStatic(field.getModifiers())) {
                    check(Modifier.isFinal(field.getModifiers()), "final " + field);
                    check(field.getType().isPrimitive() || field.getType() == String.class, "constant " + field);
                } else {
                    fields++;
                }
            }
            check(fields <= 20, "fields of " + one + ": " + fields);
            for (Member method : one.getDeclaredMethods()) {
                check(one == c || !face.contains(method.getName()), "a public name inside " + method);
            }
        }
    }

    public static void main(String[] args) throws Exception {
        String source = bare(Files.readString(Path.of("src/main/java/WhichWill.java")));
        checkWords(source);
        checkMethods(source);
        checkFace();
        System.out.println(wrong == 0 ? "the class is as LANGUAGE.md asks" : wrong + " faults");
        if (wrong != 0) {
            System.exit(1);
        }
    }
}
