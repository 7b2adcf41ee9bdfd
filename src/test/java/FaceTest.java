import java.lang.reflect.Field;
import java.lang.reflect.Method;
import java.lang.reflect.Modifier;
import java.nio.file.Files;
import java.nio.file.Path;
import java.util.TreeSet;
import java.util.regex.Matcher;
import java.util.regex.Pattern;

/** The public face of the document and no more, and what LANGUAGE.md rules out of the source as far as words tell it. */
public final class FaceTest {
    private static final Checks c = new Checks();

    public static void main(String[] args) throws Exception {
        face();
        fields();
        classesInside();
        words();
        c.end("FaceTest");
    }

    private static void face() {
        String[] due = {"int letter(int)", "int blank()", "int fault(boolean)", "int rule()", "int drop(int)", "int graph()",
            "int of(int,int)", "int begin(int)", "int step(int,int)", "int edge(int)", "int kind()", "int fewest(int)", "int kinds(int)",
            "int light(int,int,int)", "int count(int)", "long digest()"};
        TreeSet<String> wants = new TreeSet<>(java.util.List.of(due));
        TreeSet<String> found = new TreeSet<>();
        for (Method method : GrownGraphs.class.getDeclaredMethods()) {
            if (Modifier.isPublic(method.getModifiers())) {
                String text = method.toString().replaceAll("^public ", "").replace("GrownGraphs.", "");
                found.add(text);
            } else {
                c.holds(method + " is private", Modifier.isPrivate(method.getModifiers()));
                c.holds(method + " bears no public name", wants.stream().noneMatch(w -> w.contains(" " + method.getName() + "(")));
            }
        }
        c.holds("the methods are " + wants + ", not " + found, wants.equals(found));
        c.due("constructors", GrownGraphs.class.getDeclaredConstructors().length, 1);
        c.holds("the class is public and final", GrownGraphs.class.getModifiers() == (Modifier.PUBLIC | Modifier.FINAL));
    }

    private static void fields() {
        int constants = 0;
        for (Field field : GrownGraphs.class.getDeclaredFields()) {
            boolean isPrivate = Modifier.isPrivate(field.getModifiers());
            constants += isPrivate ? 0 : 1;
            c.holds(field + " is private or a constant", isPrivate || field.toString().startsWith("public static final int GrownGraphs."));
        }
        c.due("public constants", constants, 5);
    }

    /** LANGUAGE.md 1, 2, 8 and 11, as far as the compiled class tells them. */
    private static void classesInside() {
        Class<?>[] inside = GrownGraphs.class.getDeclaredClasses();
        c.holds("there are at most twelve classes", inside.length + 1 <= 12);
        TreeSet<String> face = new TreeSet<>();
        for (Method method : GrownGraphs.class.getMethods()) {
            face.add(method.getName());
        }
        for (Class<?> own : inside) {
            c.holds(own + " is static and not public", Modifier.isStatic(own.getModifiers()) && !Modifier.isPublic(own.getModifiers()));
            long fields = java.util.Arrays.stream(own.getDeclaredFields()).filter(f -> !Modifier.isStatic(f.getModifiers())).count();
            c.holds(own + " has at most twenty fields", fields <= 20);
            for (Field field : own.getDeclaredFields()) {
                c.holds(field + " is final if it is static", !Modifier.isStatic(field.getModifiers()) || Modifier.isFinal(field.getModifiers()));
            }
            for (Method method : own.getDeclaredMethods()) {
                c.holds(method + " bears no name of the face", !face.contains(method.getName()));
                c.holds(method + " has at most seven parameters", method.getParameterCount() <= 7);
            }
        }
    }

    private static void words() throws Exception {
        String source = Files.readString(Path.of("src/main/java/GrownGraphs.java"));
        c.holds("its signs are 10 and 32 to 126", source.chars().allMatch(s -> s == 10 || s >= 32 && s <= 126));
        String code = source.replaceAll("(?s)/\\*.*?\\*/", "").replaceAll("//[^\n]*", "");
        for (String word : new String[] {"throw", "throws", "try", "catch", "synchronized", "assert", "Exception", "native", "package"}) {
            c.holds("no " + word, !Pattern.compile("\\b" + word + "\\b").matcher(code).find());
        }
        c.holds("no lambda, no method reference", !code.contains("->") && !code.contains("::"));
        Matcher imports = Pattern.compile("import ([^;]*);").matcher(code);
        while (imports.find()) {
            c.holds("may import " + imports.group(1), imports.group(1).equals("java.util.Arrays"));
        }
    }
}
