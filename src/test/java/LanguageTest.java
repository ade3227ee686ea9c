import java.io.IOException;
import java.lang.reflect.Array;
import java.lang.reflect.Constructor;
import java.lang.reflect.Field;
import java.lang.reflect.Method;
import java.lang.reflect.Modifier;
import java.nio.file.Files;
import java.nio.file.Path;
import java.util.ArrayList;
import java.util.HashSet;
import java.util.List;
import java.util.Set;
import java.util.TreeSet;
import java.util.regex.Matcher;
import java.util.regex.Pattern;

/** The document's face, and those rules of LANGUAGE.md that can be looked at from outside. */
public final class LanguageTest {
    private static final Check C = new Check();

    public static void main(String[] args) throws IOException, IllegalAccessException {
        face(Files.readString(Path.of("../shared/DOC.md")));
        classes();
        String code = bare(Files.readString(Path.of("src/main/java/IceStreet.java")));
        words(code);
        methods(code);
        room();
        C.finish();
    }

    /** All calls of a run live in one room: what is made at first is counted, and calls make nothing (see methods). */
    private static void room() throws IllegalAccessException {
        List<Object> seen = new ArrayList<>(List.of(new IceStreet()));
        int elements = 0;
        for (int i = 0; i < seen.size(); i++) {
            Object o = seen.get(i);
            if (o.getClass().isArray()) {
                elements += Array.getLength(o);
                for (int k = 0; o instanceof Object[] && k < Array.getLength(o); k++) {
                    look(seen, Array.get(o, k));
                }
                continue;
            }
            for (Field f : o.getClass().getDeclaredFields()) {
                if (!Modifier.isStatic(f.getModifiers())) {
                    f.setAccessible(true);
                    elements++;
                    if (!f.getType().isPrimitive()) {
                        look(seen, f.get(o));
                    }
                }
            }
        }
        System.out.println("a new street has " + seen.size() + " objects, " + elements + " fields and elements");
        fine("few objects", seen.size() < 600);
        fine("few fields and elements", elements < 20000);
    }

    private static void look(List<Object> seen, Object o) {
        for (Object other : seen) {
            if (other == o) {
                return;
            }
        }
        if (o != null) {
            seen.add(o);
        }
    }

    private static void fine(String what, boolean yes) {
        C.due(what, yes, true);
    }

    private static void face(String doc) {
        Set<String> due = new TreeSet<>();
        Matcher m = Pattern.compile("^    public (\\w+) (\\w+)\\((.*)\\);$", Pattern.MULTILINE).matcher(doc);
        while (m.find()) {
            due.add(m.group(1) + " " + m.group(2) + "(" + m.group(3).replaceAll(" \\w+(?=,|$)", "") + ")");
        }
        fine("the document has a face", due.size() > 30);
        Set<String> names = new HashSet<>();
        Set<String> got = new TreeSet<>();
        for (Method method : IceStreet.class.getDeclaredMethods()) {
            if (Modifier.isPublic(method.getModifiers())) {
                names.add(method.getName());
                got.add(signature(method));
            }
        }
        fine("public methods are " + got + ", due " + due, got.equals(due));
        for (Class<?> c : all()) {
            for (Method method : c.getDeclaredMethods()) {
                boolean isPublic = Modifier.isPublic(method.getModifiers());
                fine(c + " " + method.getName() + " is of the face or has another name",
                    c == IceStreet.class && isPublic || !isPublic && !names.contains(method.getName()));
            }
        }
        for (Constructor<?> c : IceStreet.class.getDeclaredConstructors()) {
            fine("one constructor", Modifier.isPublic(c.getModifiers()) && c.getParameterCount() == 0);
        }
        fine("final and public", IceStreet.class.getModifiers() == (Modifier.FINAL | Modifier.PUBLIC));
    }

    private static String signature(Method method) {
        List<String> types = new ArrayList<>();
        for (Class<?> p : method.getParameterTypes()) {
            types.add(p.getSimpleName());
        }
        return method.getReturnType().getSimpleName() + " " + method.getName() + "(" + String.join(", ", types) + ")";
    }

    private static List<Class<?>> all() {
        List<Class<?>> all = new ArrayList<>(List.of(IceStreet.class));
        all.addAll(List.of(IceStreet.class.getDeclaredClasses()));
        return all;
    }

    private static void classes() {
        fine("twelve classes at most", all().size() <= 12);
        for (Class<?> c : all()) {
            int fields = 0;
            for (Field f : c.getDeclaredFields()) {
                boolean fixed = Modifier.isStatic(f.getModifiers());
                fields += fixed ? 0 : 1;
                fine(f + " is final if static", !fixed || Modifier.isFinal(f.getModifiers()));
                fine(f + " is private or NONE", c != IceStreet.class || f.getName().equals("NONE")
                    || Modifier.isPrivate(f.getModifiers()));
            }
            fine(c + " has twenty fields at most", fields <= 20);
            fine(c + " is static", c == IceStreet.class || Modifier.isStatic(c.getModifiers()));
            fine(c + " has no classes inside", c == IceStreet.class || c.getDeclaredClasses().length == 0);
            for (Method m : c.getDeclaredMethods()) {
                fine(m + " is private, or takes seven at most or is of the face", m.getParameterCount() <= 7
                    || c == IceStreet.class && Modifier.isPublic(m.getModifiers()));
                fine(m + " is package-visible in an inner class alone", c != IceStreet.class
                    || Modifier.isPublic(m.getModifiers()) || Modifier.isPrivate(m.getModifiers()));
            }
        }
    }

    /** The code without comments and texts. */
    private static String bare(String source) {
        return source.replaceAll("(?s)/\\*.*?\\*/", "").replaceAll("//[^\n]*", "").replaceAll("\"[^\"\n]*\"", "\"\"");
    }

    private static void words(String code) {
        for (String word : new String[] {"throw", "throws", "try", "catch", "finally", "synchronized", "assert", "package",
            "System\\.(?!arraycopy)", "Exact", "double", "float", "Object", "Random", "static \\{", "->", "::", "\"\" \\+",
            "\\+ \"\"", "while \\(true", "for \\(;", "import (?!java\\.util\\.Arrays;)"}) {
            boolean letters = word.matches("\\w+");
            Matcher m = Pattern.compile(letters ? "\\b" + word + "\\b" : word).matcher(code);
            fine("no " + word, !m.find());
        }
        fine("signs 10 and 32 to 126 alone", code.matches("[\n -~]*"));
    }

    private static void methods(String code) {
        String[] lines = code.split("\n");
        Pattern head = Pattern.compile("^( +)(?:public |private |static |final )*[\\w\\[\\]]+ (\\w+)\\(.*\\) \\{$");
        for (int i = 0; i < lines.length; i++) {
            Matcher m = head.matcher(lines[i]);
            if (m.matches() && !m.group(2).equals("if") && !lines[i].contains(" else ")) {
                int last = i;
                while (!lines[last].equals(m.group(1) + "}")) {
                    // What a call makes stays for all the run: rows are made by constructors.
                    fine(m.group(2) + " makes nothing", m.group(2).equals("IceStreet")
                        || !lines[last].matches(".*\\bnew\\b.*"));
                    last++;
                }
                fine(m.group(2) + " is short", last - i <= 60);
            }
        }
    }
}
