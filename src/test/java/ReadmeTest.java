import java.io.ByteArrayOutputStream;
import java.io.PrintStream;
import java.nio.file.Files;
import java.nio.file.Path;
import java.util.ArrayList;
import java.util.List;
import java.util.regex.Matcher;
import java.util.regex.Pattern;

/** What README.md says: its program prints what stands behind it, and its calls answer what stands beside them. */
public final class ReadmeTest {
    private static final Pattern BLOCK = Pattern.compile("(?s)```(\\w*)\n(.*?)```");
    private static final Pattern CALL = Pattern.compile("(x\\.\\w+\\(.*\\)); +// (throws )?([-\\w]+).*");
    private static final Pattern FREE = Pattern.compile("StolenVoices x = new StolenVoices\\(\\);|for .*\\{| {4}x\\..*;|}");
    // Made classes stand beside the class, so that they may use Check.
    private static final Path CLASSES = Path.of(System.getProperty("java.class.path"));

    private ReadmeTest() {
    }

    public static void main(String[] args) throws Exception {
        List<String> calls = new ArrayList<>();
        String program = "";
        Matcher block = BLOCK.matcher(Files.readString(Path.of("README.md")));
        while (block.find()) {
            String text = block.group(2);
            if (block.group(1).equals("java")) {
                if (text.contains("class Yours")) {
                    program = text;
                } else {
                    calls.add(text);
                }
            } else if (block.group(1).isEmpty()) {
                Check.same("what Yours prints", text, run("Yours", program));
            }
        }
        Check.same("blocks of calls", true, calls.size() >= 6);
        System.out.print(run("ReadmeCalls", checked(calls)));
        Check.same("calls are checked", true, Check.done() > 60);
        Check.end();
    }

    /** A class that does the calls and compares their answers. */
    private static String checked(List<String> blocks) {
        StringBuilder made = new StringBuilder("final class ReadmeCalls {\n");
        made.append("public static void main(String[] args) {\n");
        for (String block : blocks) {
            made.append("{\n");
            for (String line : block.split("\n")) {
                made.append(checkedLine(line)).append('\n');
            }
            made.append("}\n");
        }
        return made.append("}\n}\n").toString();
    }

    private static String checkedLine(String line) {
        Matcher call = CALL.matcher(line);
        if (!call.matches()) {
            Check.same("a line without an answer may stand there: " + line, true, FREE.matcher(line).matches());
            return line;
        }
        return "Check.same(\"README.md: " + line.replace("\"", "\\\"") + "\", \"" + call.group(3)
            + "\", String.valueOf(Check.answer(() -> " + call.group(1) + ")));";
    }

    /** Compiles and runs the class; answers what it prints. */
    private static String run(String name, String text) throws Exception {
        Path source = CLASSES.resolve(name + ".java");
        Files.writeString(source, text);
        String to = CLASSES.toString();
        int exit = new ProcessBuilder("javac", "-cp", to, "-d", to, source.toString()).inheritIO().start().waitFor();
        Check.same(name + " is compiled", 0, exit);
        if (exit != 0) {
            return "";
        }
        PrintStream screen = System.out;
        ByteArrayOutputStream printed = new ByteArrayOutputStream();
        System.setOut(new PrintStream(printed, true));
        try {
            var main = Class.forName(name).getDeclaredMethod("main", String[].class);
            main.setAccessible(true);
            main.invoke(null, (Object) new String[0]);
        } finally {
            System.setOut(screen);
        }
        return printed.toString().replace(System.lineSeparator(), "\n");
    }
}
