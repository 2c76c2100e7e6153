import java.io.IOException;
import java.lang.reflect.Constructor;
import java.lang.reflect.Field;
import java.lang.reflect.Method;
import java.lang.reflect.Modifier;
import java.nio.file.Files;
import java.nio.file.Path;
import java.util.ArrayList;
import java.util.Arrays;
import java.util.HashSet;
import java.util.List;
import java.util.Map;
import java.util.Set;
import java.util.TreeMap;
import java.util.TreeSet;
import java.util.regex.Matcher;
import java.util.regex.Pattern;

/** The public face, word for word, and those rules of LANGUAGE.md that can be seen in the class and its text. */
public final class FaceTest {
    private static final String[] FACE = {
        "int alone(int)", "int best()", "int bestOrder()", "int count(int)", "int customer(int,int,int,int,int)",
        "int drop()", "boolean end(int)", "int ends()", "int event(int,int)", "int fault()",
        "int feed(int,int,int,int,int)", "int flown(int,int)", "int fly(int,int,int,int)", "int go(int)",
        "int place(int,int)", "boolean set(int,int)", "int sortie(int,int) throws NoSuchElementException",
        "int split(int)", "int stop(int,int)", "int sum(int)", "int take(int)", "int tell()", "int undo(boolean)",
        "void clear()", "int way(int,int,boolean)", "int wind(int,int)", "int wrong()"};

    private static int failures = 0;

    public static void main(String[] args) throws IOException {
        lookAtFace();
        lookAtWords(Files.readString(Path.of("../shared/DOC.md")),
                Files.readString(Path.of("src/main/java/TruckWing.java")));
        lookAtClasses();
        lookAtText(Files.readString(Path.of("src/main/java/TruckWing.java")));
        lookAtDepth(Files.readString(Path.of("src/main/java/TruckWing.java")));
        System.out.println(failures == 0 ? "the face and the text are as due" : failures + " faults");
        if (failures > 0) {
            System.exit(1);
        }
    }

    private static void due(boolean good, String fault) {
        if (!good) {
            failures++;
            System.out.println(fault);
        }
    }

    private static void lookAtFace() {
        Set<String> methods = new TreeSet<>();
        for (Method m : TruckWing.class.getDeclaredMethods()) {
            if (!Modifier.isPrivate(m.getModifiers())) {
                due(m.getModifiers() == Modifier.PUBLIC, "not just public: " + m);
                methods.add(shown(m));
            }
        }
        due(methods.equals(new TreeSet<>(Arrays.asList(FACE))), "the face is " + methods);
        Constructor<?>[] constructors = TruckWing.class.getDeclaredConstructors();
        due(constructors.length == 1 && constructors[0].getModifiers() == Modifier.PUBLIC
                && constructors[0].getParameterCount() == 0, "the constructors");
        for (Field f : TruckWing.class.getDeclaredFields()) {
            boolean isNone = f.getName().equals("NONE") && f.getType() == int.class
                    && f.getModifiers() == (Modifier.PUBLIC | Modifier.STATIC | Modifier.FINAL);
            due(isNone || Modifier.isPrivate(f.getModifiers()), "a field that is seen: " + f);
        }
        due(TruckWing.class.getModifiers() == (Modifier.PUBLIC | Modifier.FINAL), "the class is public and final");
    }

    /** The document's face and the class's public lines, in their order, with the names of the parameters. */
    private static void lookAtWords(String document, String text) {
        Matcher block = Pattern.compile("(?s)## The public face\\s+```java\n(.*?)```").matcher(document);
        due(block.find(), "the document has no face");
        due(seen(block.group(1)).size() == FACE.length + 4, "the document's face was not read: " + seen(block.group(1)));
        due(seen(text).equals(seen(block.group(1))), "the document has " + seen(block.group(1)) + ", the class has "
                + seen(text));
    }

    /** The import, and what is public, without what stands behind its head. */
    private static List<String> seen(String text) {
        List<String> lines = new ArrayList<>();
        for (String line : text.split("\n")) {
            if (line.matches("import .*|( {4})?public .*")) {
                lines.add(line.replaceAll("( \\{|;)$", ""));
            }
        }
        return lines;
    }

    private static String shown(Method m) {
        StringBuilder text = new StringBuilder(m.getReturnType().getName() + " " + m.getName() + "(");
        for (Class<?> p : m.getParameterTypes()) {
            text.append(text.charAt(text.length() - 1) == '(' ? "" : ",").append(p.getName());
        }
        text.append(")");
        for (Class<?> e : m.getExceptionTypes()) {
            text.append(" throws ").append(e.getSimpleName());
        }
        return text.toString();
    }

    private static void lookAtClasses() {
        Set<String> open = new HashSet<>();
        for (String call : FACE) {
            open.add(call.replaceAll("^\\w+ (\\w+)\\(.*$", "$1"));
        }
        Class<?>[] inside = TruckWing.class.getDeclaredClasses();
        due(inside.length <= 11, "rule 11: classes: " + inside.length);
        for (Class<?> c : inside) {
            due(Modifier.isStatic(c.getModifiers()) && !Modifier.isPublic(c.getModifiers()), "rule 1: " + c);
            for (Method m : c.getDeclaredMethods()) {
                due(!open.contains(m.getName()), "rule 1: a method inside with a name of the face: " + m);
                due(m.getParameterCount() <= 7, "rule 11: parameters: " + m);
            }
            lookAtFields(c);
        }
        lookAtFields(TruckWing.class);
        for (Method m : TruckWing.class.getDeclaredMethods()) {
            due(!Modifier.isPrivate(m.getModifiers()) || !open.contains(m.getName()), "rule 1: " + m);
        }
    }

    private static void lookAtFields(Class<?> c) {
        int fields = 0;
        for (Field f : c.getDeclaredFields()) {
            if (Modifier.isStatic(f.getModifiers())) {
                due(Modifier.isFinal(f.getModifiers()), "rule 5: " + f);
            } else {
                fields++;
            }
        }
        due(fields <= 20, "rule 11: fields of " + c + ": " + fields);
    }

    private static void lookAtText(String text) {
        String code = text.replaceAll("(?s)/\\*.*?\\*/", "").replaceAll("//[^\n]*", "");
        String[] refused = {"->", "::", "\\bfinally\\b", "\\bsynchronized\\b", "\\bassert\\b", "\\bstatic \\{",
            "Exact\\b", "\\bSystem\\.(?!arraycopy)", "\\bcatch \\(", "\\bMath\\.(?!abs\\b|max\\b|min\\b)",
            "\\bhashCode\\b", "\\btoString\\b", "\\bdouble\\b", "\\bfloat\\b", "\\bnull\\b", "\\binstanceof\\b",
            "\\bprotected\\b", "\\bwhile \\(true", "\\bfor \\(;", "\" \\+", "\\+ \"", "^package",
            "import java\\.util\\.(?!NoSuch)"};
        for (String sign : refused) {
            Matcher m = Pattern.compile(sign, Pattern.MULTILINE).matcher(code);
            due(!m.find(), "the text has " + sign);
        }
        due(code.split("throw new ", -1).length == 2 && code.contains("throw new NoSuchElementException()"),
                "one throw, of sortie");
        int start = 0;
        String[] lines = text.split("\n");
        for (int k = 0; k < lines.length; k++) {
            due(lines[k].length() <= 120, "a long line: " + (k + 1));
            if (lines[k].matches(" +(public|private) [^=;]*\\) (throws \\w+ )?\\{")) {
                start = k;
            }
            if (lines[k].matches(" {4,8}\\}")) {
                due(k - start < 60 || lines[k].matches(" {4}\\}"), "rule 11: over sixty lines, end at " + (k + 1));
            }
        }
    }

    /** Seven of the class and one of the library. Methods of one name count as one: at worst a chain seems longer. */
    private static void lookAtDepth(String text) {
        Map<String, Set<String>> calls = new TreeMap<>();
        String within = "";
        for (String line : text.split("\n")) {
            Matcher head = Pattern.compile("^ +(?:public|private) [^=;]*?(\\w+)\\([^=;]*\\{$").matcher(line);
            if (head.find()) {
                within = head.group(1);
                calls.putIfAbsent(within, new TreeSet<>());
                continue;
            }
            Matcher call = Pattern.compile("(new )?\\b(\\w+)\\(").matcher(line.replaceAll("^ *(/\\*|\\*|//).*", ""));
            while (call.find() && !within.isEmpty()) {
                calls.get(within).add(call.group(2));
            }
        }
        for (String name : calls.keySet()) {
            List<String> chain = longest(name, calls, 0);
            due(chain.size() <= 7, "rule 11: calls too deep: " + chain);
        }
        due(calls.size() > 100, "the methods were not found");
    }

    private static List<String> longest(String name, Map<String, Set<String>> calls, int depth) {
        List<String> best = new ArrayList<>();
        if (depth < 20) {
            for (String callee : calls.get(name)) {
                if (calls.containsKey(callee)) {
                    List<String> chain = longest(callee, calls, depth + 1);
                    best = chain.size() > best.size() ? chain : best;
                }
            }
        }
        best.add(0, name);
        return best;
    }
}
