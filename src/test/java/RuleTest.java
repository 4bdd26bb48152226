import java.io.IOException;
import java.lang.reflect.Constructor;
import java.lang.reflect.Field;
import java.lang.reflect.Method;
import java.lang.reflect.Modifier;
import java.nio.file.Files;
import java.nio.file.Path;
import java.util.HashSet;
import java.util.Set;
import java.util.TreeSet;
import java.util.regex.Matcher;
import java.util.regex.Pattern;

/** What a machine can see of the rules of LANGUAGE.md: the face, the words that are not allowed, the sizes. */
public final class RuleTest {
    private static final String FACE = "feed(iiiii)i post(i)i fault(i)i person(ii)i cares(ii)i minds(ii)i would(ii)i "
        + "letter(ii)i mail(ii)i move(ii)i arouse(ii)i mood(ii)i days(i)i undo(i)i judge(ii)i perform(i)i year(ii)i "
        + "lies(iii)i comes(ii)i ends(iii)i hands(ii)i sources(i)i soonest(i)i rings(i)i offices(i)i needed(ii)i "
        + "moves(iii)i feeling(iii)i found(i)i hides(i)i seen(iii)i probe(iiii)i heart(iiii)i suspects(iii)i "
        + "meet(iiii)i hub()i chance(iiii)l likely(iii)i surest(ii)i numbers(iii)i write(iil)l lists(iii)i image(i)i "
        + "restore(i)i count(i)i";
    private static int wrong = 0;

    private static void bad(String what) {
        wrong++;
        System.out.println(what);
    }

    public static void main(String[] args) throws IOException {
        face();
        names();
        sizes();
        source(Files.readString(Path.of("src/main/java/MindPost.java")));
        System.out.println(wrong == 0 ? "the rules are kept" : wrong + " rules are not kept");
        if (wrong != 0) {
            System.exit(1);
        }
    }

    private static boolean isPrivate(int modifiers) {
        return Modifier.isPrivate(modifiers);
    }

    private static void face() {
        Set<String> want = new TreeSet<>(Set.of(FACE.split(" ")));
        Set<String> got = new TreeSet<>();
        for (Method m : MindPost.class.getDeclaredMethods()) {
            if (!isPrivate(m.getModifiers())) {
                StringBuilder s = new StringBuilder(m.getName()).append('(');
                for (Class<?> c : m.getParameterTypes()) {
                    s.append(c.getName().charAt(0));
                }
                got.add(s.append(')').append(m.getReturnType().getName().charAt(0)).toString());
                if (!Modifier.isPublic(m.getModifiers()) || Modifier.isStatic(m.getModifiers())) {
                    bad("not as the face has it: " + m);
                }
            }
        }
        if (!got.equals(want)) {
            bad("the face is " + got);
        }
        for (Field f : MindPost.class.getDeclaredFields()) {
            boolean none = f.getName().equals("NONE");
            if (none != Modifier.isPublic(f.getModifiers()) || !none && !isPrivate(f.getModifiers())) {
                bad("seen: " + f);
            }
        }
        Constructor<?>[] made = MindPost.class.getDeclaredConstructors();
        if (made.length != 1 || made[0].getParameterCount() != 0 || !Modifier.isPublic(made[0].getModifiers())) {
            bad("the constructor");
        }
        if (!Modifier.isFinal(MindPost.class.getModifiers())) {
            bad("the class isn't final");
        }
        for (Class<?> c : MindPost.class.getDeclaredClasses()) {
            if (!Modifier.isStatic(c.getModifiers()) || Modifier.isPublic(c.getModifiers())) {
                bad("class " + c);
            }
        }
    }

    private static void names() {
        Set<String> face = new HashSet<>();
        for (Method m : MindPost.class.getDeclaredMethods()) {
            if (Modifier.isPublic(m.getModifiers())) {
                face.add(m.getName());
            }
        }
        for (Class<?> c : MindPost.class.getDeclaredClasses()) {
            for (Method m : c.getDeclaredMethods()) {
                if (face.contains(m.getName())) {
                    bad("bears a name of the face: " + m);
                }
            }
        }
        for (Method m : MindPost.class.getDeclaredMethods()) {
            if (isPrivate(m.getModifiers()) && face.contains(m.getName())) {
                bad("bears a name of the face: " + m);
            }
        }
    }

    private static void sizes() {
        Class<?>[] inside = MindPost.class.getDeclaredClasses();
        if (inside.length > 12) {
            bad("classes: " + inside.length);
        }
        fields(MindPost.class);
        for (Class<?> c : inside) {
            fields(c);
        }
    }

    private static void fields(Class<?> c) {
        int n = 0;
        for (Field f : c.getDeclaredFields()) {
            n += Modifier.isStatic(f.getModifiers()) ? 0 : 1;
            if (Modifier.isStatic(f.getModifiers()) && !Modifier.isFinal(f.getModifiers())) {
                bad("static, not final: " + f);
            }
        }
        if (n > 20) {
            bad("fields of " + c + ": " + n);
        }
        for (Method m : c.getDeclaredMethods()) {
            if (m.getParameterCount() > 7) {
                bad("parameters of " + m);
            }
        }
    }

    private static void source(String text) {
        for (int i = 0; i < text.length(); i++) {
            if (text.charAt(i) > 126) {
                bad("a sign that isn't plain at " + i);
            }
        }
        String code = text.replaceAll("(?s)/\\*.*?\\*/", "").replaceAll("//[^\n]*", "")
            .replaceAll("\"[^\"\n]*\"", "\"\"");
        String[] never = {"\\bthrow\\b", "\\btry\\b", "\\bcatch\\b", "\\bsynchronized\\b", "\\bassert\\b", "->", "::",
            "\\bimport\\b", "\\bpackage\\b", "\\bprotected\\b", "Exact\\(", "static \\{", "\\bwhile \\(true\\)",
            "System\\.(?!arraycopy)", "\\bdouble\\b", "\\bfloat\\b", "\"\" \\+", "\\+ \"\"", "\\bvar\\b"};
        for (String word : never) {
            Matcher m = Pattern.compile(word).matcher(code);
            if (m.find()) {
                bad("not allowed: " + m.group());
            }
        }
        methods(code.split("\n", -1));
    }

    private static void methods(String[] lines) {
        int start = -1;
        String indent = "";
        for (int i = 0; i < lines.length; i++) {
            Matcher head = Pattern.compile("^( {4}| {8})[a-zA-Z].*\\) \\{$").matcher(lines[i]);
            if (start < 0 && head.find()) {
                start = i;
                indent = head.group(1);
            } else if (start >= 0 && lines[i].equals(indent + "}")) {
                if (i - start + 1 > 60) {
                    bad("a method of " + (i - start + 1) + " lines: " + lines[start].strip());
                }
                start = -1;
            }
        }
    }
}
