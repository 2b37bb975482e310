import java.lang.reflect.Field;
import java.lang.reflect.Method;
import java.lang.reflect.Modifier;
import java.nio.file.Files;
import java.nio.file.Path;
import java.util.ArrayList;
import java.util.Arrays;
import java.util.HashSet;
import java.util.List;
import java.util.Set;
import java.util.TreeSet;
import java.util.regex.Matcher;
import java.util.regex.Pattern;

/** The face of the class, some rules of LANGUAGE.md that can be looked at, and the room that a dear run takes. */
public final class LanguageRules {
    private static int wrong = 0;
    private static final String[] FACE = {
        "int feed(int,int,int,int,int)", "boolean end(int)", "int fault(int)", "int land()", "int protocol()",
        "int told(int,int)", "int parish(int,int,int)", "boolean vote(int,int,int,int)", "int judge(int,int)",
        "int won(int,int,int)", "int seats(int,int,int)", "int all(int,int)", "int alone(int,int,int)",
        "int luck(int,int,int,int)", "int far(int,int,int,int)", "int apart(int,int,int)", "int settled(int,int)",
        "int near(int,int)", "int walk(int,int,long,int)", "int game(int,int)", "int phase(int)", "int turn(int)",
        "boolean move(int,int)", "boolean undo(int)", "int best(int,int)", "int value(int,int)", "int kept(int,int)",
        "int sure(int,int,int)", "int ended(int,int)", "int first(int,int)", "int worst(int)", "int worse(int,int)",
        "int count(int)"};
    private static final String[] FORBIDDEN = {
        "->", "::", "\\btry\\b", "\\bcatch\\b", "\\bfinally\\b", "\\bsynchronized\\b", "\\bassert\\b", "\\bdouble\\b",
        "\\bfloat\\b", "\\bstatic \\{", "\\bSystem\\.", "Exact\\(", "\\.hashCode", "\\.toString", "_VALUE", "String"};

    public static void main(String[] args) throws Exception {
        face();
        classes();
        source();
        nothingIsNull(new TwoPencils());
        room();
        System.out.println(wrong == 0 ? "all rules are kept" : wrong + " rules are broken");
        if (wrong != 0) {
            System.exit(1);
        }
    }

    private static void rule(String what, boolean kept) {
        if (!kept) {
            wrong++;
            System.out.println("broken: " + what);
        }
    }

    private static void face() {
        Set<String> methods = new TreeSet<>();
        Set<String> names = new HashSet<>();
        for (Method m : TwoPencils.class.getDeclaredMethods()) {
            if (m.isSynthetic()) {
                continue;
            }
            if (Modifier.isPrivate(m.getModifiers())) {
                continue;
            }
            rule(m + " is public and no static one", (m.getModifiers() & ~Modifier.FINAL) == Modifier.PUBLIC);
            names.add(m.getName());
            List<String> types = new ArrayList<>();
            for (Class<?> t : m.getParameterTypes()) {
                types.add(t.getSimpleName());
            }
            methods.add(m.getReturnType().getSimpleName() + " " + m.getName() + "(" + String.join(",", types) + ")");
        }
        rule("the methods are those of the document: " + methods, methods.equals(new TreeSet<>(Arrays.asList(FACE))));
        rule("public and final", TwoPencils.class.getModifiers() == (Modifier.PUBLIC | Modifier.FINAL));
        rule("one public constructor", TwoPencils.class.getConstructors().length == 1
                && TwoPencils.class.getDeclaredConstructors().length == 1);
        for (Field f : TwoPencils.class.getDeclaredFields()) {
            boolean constant = f.getName().equals("NONE") || f.getName().equals("HIDDEN");
            rule(f + " is private or of the face", constant == Modifier.isPublic(f.getModifiers())
                    && (constant || Modifier.isPrivate(f.getModifiers())));
        }
        for (Class<?> c : all()) {
            for (Method m : c.getDeclaredMethods()) {
                boolean ofFace = c == TwoPencils.class && Modifier.isPublic(m.getModifiers());
                rule(m + " bears the name of a public one", m.isSynthetic() || ofFace || !names.contains(m.getName()));
            }
        }
    }

    private static List<Class<?>> all() {
        List<Class<?>> all = new ArrayList<>(Arrays.asList(TwoPencils.class.getDeclaredClasses()));
        all.add(TwoPencils.class);
        return all;
    }

    private static void classes() {
        rule("at most twelve classes", all().size() <= 12);
        for (Class<?> c : all()) {
            rule(c + " is static", c == TwoPencils.class || Modifier.isStatic(c.getModifiers()));
            int fields = 0;
            for (Field f : c.getDeclaredFields()) {
                boolean fixed = Modifier.isStatic(f.getModifiers());
                rule(f + " is final if static", !fixed || Modifier.isFinal(f.getModifiers()));
                fields += fixed ? 0 : 1;
            }
            rule(c + " has at most twenty fields", fields <= 20);
            for (Method m : c.getDeclaredMethods()) {
                rule(m + " takes at most seven", m.getParameterCount() <= 7);
            }
        }
    }

    private static void source() throws Exception {
        String text = Files.readString(Path.of("src/main/java/TwoPencils.java"));
        String code = text.replaceAll("(?s)/\\*.*?\\*/", "").replaceAll("//[^\n]*", "");
        for (String word : FORBIDDEN) {
            rule("no " + word, !Pattern.compile(word).matcher(code).find());
        }
        for (char c : text.toCharArray()) {
            rule("signs 1 to 127", c >= 1 && c <= 127);
        }
        Matcher imports = Pattern.compile("import ([^;]*);").matcher(code);
        while (imports.find()) {
            rule(imports.group(), imports.group(1).equals("java.util.Arrays")
                    || imports.group(1).equals("java.util.NoSuchElementException"));
        }
        Matcher library = Pattern.compile("\\b(Math|Integer|Long|Arrays)\\.(\\w+)").matcher(code);
        Set<String> allowed = Set.of("Math.max", "Math.min", "Math.abs", "Integer.bitCount", "Arrays.fill");
        while (library.find()) {
            rule(library.group() + " is of the library", allowed.contains(library.group()));
        }
        String[] lines = text.split("\n");
        int start = 0;
        for (int i = 0; i < lines.length; i++) {
            if (lines[i].matches("(    |        )[^ /].*\\{") && !lines[i].contains(" class ")) {
                start = i;
            }
            if (lines[i].matches("(    |        )\\}")) {
                rule("a method of at most sixty lines at " + (start + 1), i - start < 60 || lines[i].startsWith("    }"));
            }
            rule("a loop with an end in line " + (i + 1), !lines[i].matches(".*\\bwhile\\b.*|.*for \\(;;\\).*"));
        }
    }

    /** Places for lands, protocols and games are null till these come; nothing else is, from the first on. */
    private static void nothingIsNull(Object own) throws Exception {
        for (Field f : own.getClass().getDeclaredFields()) {
            f.setAccessible(true);
            if (Modifier.isStatic(f.getModifiers()) || f.getType().isPrimitive()) {
                continue;
            }
            Object value = f.get(own);
            rule(f + " is not null in a new object", value != null);
            if (value != null && all().contains(value.getClass())) {
                nothingIsNull(value);
            }
        }
    }

    private static void tell(TwoPencils x, String text) {
        for (int i = 0; i < text.length(); i += 4) {
            int word = 0;
            for (int k = i; k < i + 4; k++) {
                word = word << 8 | (k < text.length() ? text.charAt(k) : 0);
            }
            x.feed(word, 0, 0, 0, 0);
        }
    }

    /** Nearly 512 calls of the dearest kind: what they take must be a small part of 7.3 million elements. */
    private static void room() {
        com.sun.management.ThreadMXBean bean =
                (com.sun.management.ThreadMXBean) java.lang.management.ManagementFactory.getThreadMXBean();
        long id = Thread.currentThread().getId();
        TwoPencils x = new TwoPencils();
        StringBuilder links = new StringBuilder();
        for (int p = 0; p < 9; p++) {
            for (int q = 0; q < p; q++) {
                links.append(";" + p + "-" + q);
            }
        }
        String[] lands = new String[6];
        for (int l = 0; l < 6; l++) {
            lands[l] = "9/4" + links + ";0:3,1;3:" + l + ",5;5:2,7;8:9,1,4";
        }
        long before = bean.getThreadAllocatedBytes(id);
        for (int l = 0; l < 6; l++) {
            tell(x, lands[l]);
            rule("land", x.land() == l);
        }
        for (String p : new String[] {"a>b", "b>a", "a+b", "a/b", "a", "a>b,b>a", "a>b,a+b", "a>b,b/a"}) {
            tell(x, p);
            rule("protocol", x.protocol() >= 0);
        }
        for (int i = 0; i < 8; i++) {
            x.game(i < 4 ? 0 : 1, i);
        }
        for (int i = 0; i < 100; i++) {
            x.vote(2 + i % 4, i % 9, i % 3, i % 100);
            x.near(2 + i % 4, x.all(2 + i % 4, 7 * i));
            x.worst(i % 8);
            x.best(i % 8, i % 3);
            x.move(i % 8, x.best(i % 8, 0));
        }
        long taken = bean.getThreadAllocatedBytes(id) - before;
        rule("a dear run takes " + taken + " bytes", taken < 2000000);
    }
}
