import java.lang.reflect.Constructor;
import java.lang.reflect.Field;
import java.lang.reflect.Method;
import java.lang.reflect.Modifier;
import java.nio.charset.StandardCharsets;
import java.nio.file.Files;
import java.nio.file.Path;
import java.util.ArrayList;
import java.util.List;
import java.util.Set;
import java.util.TreeSet;
import java.util.regex.Matcher;
import java.util.regex.Pattern;

/** The document's face, and those rules of LANGUAGE.md that can be seen without a compiler. */
public final class FaceTest {
    private static final String[] FACE = {
        "int damp(1)", "int list(2)", "int listed(1)", "int person(1)", "int of(2)", "int change(3)", "int kin(2)",
        "int make(3)", "int iron(1)", "int go(1)", "int now(1)", "int steps(3)", "int clans(1)", "int clan(2)",
        "int tie(2)", "int ahead(3)", "int when(3)", "int first(1)", "int one(1)", "int put(4)", "int apart(4)",
        "int kindFor(2)", "int dampFor(4)", "int divorce(1)", "int fits(4)", "int went(4)", "int kinds(2)",
        "int washes(1)", "long odds(3)", "int seed(1)", "int feed(2)", "int wipe(0)", "int text(0)", "int hold(2)",
        "int as(2)", "int sheet(3)", "int write(3)", "int copy(5)", "int load(1)", "int judge(2)", "int image(0)",
        "int undo(0)", "int tear(0)", "int count(1)", "int status(1)"};
    private static final String[] BANNED = {
        "throw", "throws", "try", "catch", "finally", "synchronized", "assert", "volatile", "transient", "native",
        "protected", "package", "var", "double", "float", "System.out", "System.exit", "hashCode", "toString",
        "addExact", "multiplyExact", "java.io", "java.nio", "currentTimeMillis", "nanoTime", "Random", "Thread"};

    private final Due due = new Due();

    public static void main(String[] args) throws Exception {
        FaceTest t = new FaceTest();
        t.face();
        t.members();
        t.classesInside();
        t.source();
        t.due.end("FaceTest");
    }

    private void face() {
        Set<String> want = new TreeSet<>(List.of(FACE));
        Set<String> got = new TreeSet<>();
        for (Method m : MangleKin.class.getDeclaredMethods()) {
            if (Modifier.isPublic(m.getModifiers())) {
                got.add(m.getReturnType() + " " + m.getName() + "(" + m.getParameterCount() + ")");
                for (Class<?> type : m.getParameterTypes()) {
                    due.so(m + " takes ints", type == int.class);
                }
            }
        }
        due.so("the public methods are " + want + ", not " + got, want.equals(got));
        int modifiers = MangleKin.class.getModifiers();
        due.so("public and final", Modifier.isPublic(modifiers) && Modifier.isFinal(modifiers));
        due.so("no package", MangleKin.class.getPackageName().isEmpty());
    }

    private void members() {
        for (Method m : MangleKin.class.getDeclaredMethods()) {
            int modifiers = m.getModifiers();
            due.so(m + " is public or private", Modifier.isPublic(modifiers) || Modifier.isPrivate(modifiers));
        }
        for (Field f : MangleKin.class.getDeclaredFields()) {
            due.so(f + " is private", Modifier.isPrivate(f.getModifiers()));
        }
        Constructor<?>[] makers = MangleKin.class.getDeclaredConstructors();
        due.so("one public constructor", makers.length == 1 && Modifier.isPublic(makers[0].getModifiers()));
        due.so("it takes nothing", makers[0].getParameterCount() == 0);
    }

    private void classesInside() {
        Set<String> names = new TreeSet<>();
        for (String method : FACE) {
            names.add(method.replaceAll(".* |\\(.*", ""));
        }
        List<Class<?>> all = new ArrayList<>(List.of(MangleKin.class.getDeclaredClasses()));
        due.so("at most twelve classes", all.size() <= 11);
        for (Class<?> inside : all) {
            int modifiers = inside.getModifiers();
            due.so(inside + " is static", Modifier.isStatic(modifiers));
            due.so(inside + " isn't seen outside", !Modifier.isPublic(modifiers) && !Modifier.isProtected(modifiers));
        }
        all.add(MangleKin.class);
        for (Class<?> c : all) {
            int fields = 0;
            for (Field f : c.getDeclaredFields()) {
                fields += Modifier.isStatic(f.getModifiers()) ? 0 : 1;
                due.so(f + " is final if static", !Modifier.isStatic(f.getModifiers()) || Modifier.isFinal(f.getModifiers()));
            }
            due.so(c + " has at most twenty fields", fields <= 20);
            for (Method m : c.getDeclaredMethods()) {
                due.so(m + " takes at most seven", m.getParameterCount() <= 7);
                boolean public_ = c == MangleKin.class && Modifier.isPublic(m.getModifiers());
                due.so(m + " bears no name of the face", public_ || !names.contains(m.getName()));
            }
        }
    }

    private void source() throws Exception {
        String source = Files.readString(Path.of("src/main/java/MangleKin.java"), StandardCharsets.UTF_8);
        due.so("signs are 1 to 127", source.chars().allMatch(c -> c > 0 && c < 128));
        String code = source.replaceAll("(?s)/\\*.*?\\*/", "").replaceAll("//[^\n]*", "");
        for (String word : BANNED) {
            Matcher m = Pattern.compile("\\b" + Pattern.quote(word) + "\\b").matcher(code);
            due.so("no " + word, !m.find());
        }
        due.so("no lambda, no method reference", !code.contains("->") && !code.contains("::"));
        due.so("no join by +", !code.contains("\" +") && !code.contains("+ \""));
        Matcher imports = Pattern.compile("import ([^;]*);").matcher(code);
        while (imports.find()) {
            due.so("import " + imports.group(1), imports.group(1).equals("java.util.Arrays"));
        }
        due.so("no loop without an end", !code.contains("while (true)") && !code.contains("for (;;)"));
        methodsAreShort(source);
    }

    private void methodsAreShort(String source) {
        String[] lines = source.split("\n");
        for (int at = 0; at < lines.length; at++) {
            Matcher head = Pattern.compile("^( {4}| {8})[a-zA-Z].*\\) \\{$").matcher(lines[at]);
            if (head.matches()) {
                int end = at;
                while (end < lines.length && !lines[end].equals(head.group(1) + "}")) {
                    end++;
                }
                due.so(lines[at].trim() + " is short", end - at <= 60);
            }
        }
    }
}
