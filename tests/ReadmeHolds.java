import java.io.File;
import java.io.StringWriter;
import java.net.URI;
import java.nio.file.Files;
import java.nio.file.Path;
import java.util.ArrayList;
import java.util.List;
import java.util.regex.Matcher;
import java.util.regex.Pattern;
import java.util.stream.Stream;
import javax.tools.JavaCompiler;
import javax.tools.JavaFileObject;
import javax.tools.SimpleJavaFileObject;
import javax.tools.ToolProvider;

/** README.md as it is written: its program answers as its comments tell, it uses every call, its commands end well. */
public final class ReadmeHolds {
    private static final Pattern BLOCK = Pattern.compile("(?s)```(\\w+)\n(.*?)```");
    private static final Pattern TOLD = Pattern.compile("(?:int (\\w+) = )?(.*);\\s+// (-?\\d+|true|false)");
    private static final Pattern FILE = Pattern.compile("`((?:\\.\\./shared|tests|src)/[^`]*)`");

    private static int wrong = 0;

    public static void main(String[] args) throws Exception {
        String readme = Files.readString(Path.of("README.md"));
        StringBuilder body = new StringBuilder();
        StringBuilder members = new StringBuilder();
        List<String> commands = new ArrayList<>();
        Matcher block = BLOCK.matcher(readme);
        while (block.find()) {
            String text = block.group(2);
            if (block.group(1).equals("sh")) {
                commands.addAll(text.lines().toList());
            } else if (text.startsWith("static ")) {
                members.append(text);
            } else {
                text.lines().forEach(line -> body.append(compared(line)).append('\n'));
            }
        }
        everyCall(body.toString());
        files(readme);
        Path copy = copyOfProject();
        for (String command : commands) {
            run(command, copy);
        }
        program(members.toString(), body.toString());
        System.out.println(wrong == 0 ? "README.md holds" : wrong + " things do not hold");
        if (wrong != 0) {
            System.exit(1);
        }
    }

    private static void fail(String how) {
        wrong++;
        System.out.println("README.md: " + how);
    }

    /** Called by the program that is made of README.md. */
    public static void due(String call, Object got, Object want) {
        if (!got.equals(want)) {
            fail(call + " answered " + got + ", told is " + want);
        }
    }

    private static String compared(String line) {
        Matcher told = TOLD.matcher(line);
        if (!told.matches()) {
            return line;
        }
        String call = told.group(2);
        String name = told.group(1);
        String before = name == null ? "" : "int " + name + " = " + call + "; ";
        String words = call.replace("\"", "'");
        return before + "ReadmeHolds.due(\"" + words + "\", " + (name == null ? call : name) + ", " + told.group(3) + ");";
    }

    private static void everyCall(String body) {
        for (java.lang.reflect.Method m : TwoPencils.class.getDeclaredMethods()) {
            boolean used = body.contains("x." + m.getName() + "(");
            if (java.lang.reflect.Modifier.isPublic(m.getModifiers()) && !used) {
                fail("its program does not use " + m.getName());
            }
        }
    }

    private static void files(String readme) {
        Matcher file = FILE.matcher(readme);
        while (file.find()) {
            if (!Files.exists(Path.of(file.group(1)))) {
                fail("there is no " + file.group(1));
            }
        }
    }

    /** Beside where this test was compiled to, so that what the commands make does not come into the project. */
    private static Path copyOfProject() throws Exception {
        Path to = Files.createTempDirectory(compiledTo(), "project");
        for (String part : List.of("src", "tests")) {
            try (Stream<Path> all = Files.walk(Path.of(part))) {
                for (Path one : all.toList()) {
                    Files.copy(one, to.resolve(one));
                }
            }
        }
        return to;
    }

    private static Path compiledTo() {
        return Path.of(System.getProperty("java.class.path").split(File.pathSeparator)[0]);
    }

    /** The script that runs this test is not run by it. */
    private static void run(String command, Path there) throws Exception {
        if (command.equals(".ci/run")) {
            if (!Files.isExecutable(Path.of(command))) {
                fail(command + " can not be run");
            }
            return;
        }
        Process process = new ProcessBuilder("sh", "-c", command).directory(there.toFile())
                .redirectErrorStream(true).redirectOutput(ProcessBuilder.Redirect.DISCARD).start();
        if (process.waitFor() != 0) {
            fail("this command fails: " + command);
        }
    }

    /** Compiles it to where this test was compiled to, and runs it. */
    private static void program(String members, String body) throws Exception {
        String text = "public class Readme { " + members + "public static void main(String[] args) {\n" + body + "}}";
        String path = compiledTo().toString();
        SimpleJavaFileObject source = new SimpleJavaFileObject(URI.create("string:///Readme.java"),
                JavaFileObject.Kind.SOURCE) {
            @Override
            public CharSequence getCharContent(boolean ignored) {
                return text;
            }
        };
        StringWriter flaws = new StringWriter();
        List<String> options = List.of("--release", "17", "-d", path, "-cp", path);
        JavaCompiler compiler = ToolProvider.getSystemJavaCompiler();
        if (!compiler.getTask(flaws, null, null, options, null, List.of(source)).call()) {
            fail("its program does not compile: " + flaws);
            return;
        }
        Class.forName("Readme").getMethod("main", String[].class).invoke(null, (Object) new String[0]);
    }
}
