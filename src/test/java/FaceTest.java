import java.io.IOException;
import java.lang.reflect.Constructor;
import java.lang.reflect.Field;
import java.lang.reflect.Method;
import java.lang.reflect.Modifier;
import java.nio.file.Files;
import java.nio.file.Path;
import java.util.Set;
import java.util.TreeSet;
import java.util.regex.Matcher;
import java.util.regex.Pattern;

/** The class has the document's face and no other member that can be reached. */
public final class FaceTest {
    private static int wrong = 0;

    public static void main(String[] args) throws IOException {
        Set<String> want = face();
        Set<String> got = new TreeSet<>();
        Class<?> c = SwitchedNets.class;
        got.add(Modifier.toString(c.getModifiers()) + " class " + c.getSimpleName());
        for (Constructor<?> k : c.getDeclaredConstructors()) {
            addReachable(got, k.getModifiers(), k.toGenericString());
        }
        for (Field f : c.getDeclaredFields()) {
            addReachable(got, f.getModifiers(), f.toGenericString());
            check(!Modifier.isStatic(f.getModifiers()) || Modifier.isFinal(f.getModifiers()),
                    "a static field that is not final: " + f);
        }
        Set<String> open = new TreeSet<>();
        for (Method m : c.getDeclaredMethods()) {
            addReachable(got, m.getModifiers(), m.toGenericString());
            if (Modifier.isPublic(m.getModifiers())) {
                open.add(m.getName());
            }
        }
        for (Method m : c.getDeclaredMethods()) {
            check(Modifier.isPublic(m.getModifiers()) || !open.contains(m.getName()),
                    "a hidden method bears a public one's name: " + m);
        }
        for (Class<?> inner : c.getDeclaredClasses()) {
            check(Modifier.isStatic(inner.getModifiers()), "a class inside is not static: " + inner);
            for (Method m : inner.getDeclaredMethods()) {
                check(!open.contains(m.getName()), "a method inside bears a public one's name: " + m);
            }
        }
        for (String w : want) {
            check(got.contains(w), "the face lacks: " + w);
        }
        for (String g : got) {
            check(want.contains(g), "not of the face: " + g);
        }
        System.out.println(wrong == 0 ? "the face is as due" : wrong + " faults in the face");
        if (wrong != 0) {
            System.exit(1);
        }
    }

    private static void addReachable(Set<String> all, int modifiers, String text) {
        if (!Modifier.isPrivate(modifiers)) {
            all.add(text);
        }
    }

    private static void check(boolean holds, String fault) {
        if (!holds) {
            wrong++;
            System.out.println(fault);
        }
    }

    /** The face as the document writes it, in the words that reflection uses. */
    private static Set<String> face() throws IOException {
        Set<String> all = new TreeSet<>();
        String doc = Files.readString(Path.of("../shared/DOC.md"));
        String code = doc.substring(doc.indexOf("```java") + 7);
        code = code.substring(0, code.indexOf("```"));
        all.add("public final class SwitchedNets");
        all.add("public static final int SwitchedNets.NONE");
        all.add("public SwitchedNets()");
        Pattern method = Pattern.compile("public (int|boolean|void) (\\w+)\\(([^)]*)\\)( throws [^;]*)?;");
        Matcher m = method.matcher(code);
        while (m.find()) {
            String types = m.group(3).replaceAll(" \\w+(, |$)", ",").replaceAll(",$", "");
            String thrown = m.group(4) == null
                    ? ""
                    : m.group(4).replace(", ", ",").replace("Illegal", "java.lang.Illegal");
            all.add("public " + m.group(1) + " SwitchedNets." + m.group(2) + "(" + types + ")" + thrown);
        }
        check(all.size() == 27, "the document's face is read as " + all.size() + " members");
        return all;
    }
}
