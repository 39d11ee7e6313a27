import java.io.File;
import java.io.IOException;
import java.net.URL;
import java.net.URLClassLoader;
import java.nio.file.Files;
import java.nio.file.Path;
import java.util.ArrayList;
import java.util.List;
import java.util.regex.Matcher;
import java.util.regex.Pattern;
import javax.tools.ToolProvider;

/** The program that README.md shows is compiled and run: its calls must answer what stands behind them. */
public final class ReadmeTest {
    private static final Pattern SHOWN = Pattern.compile("(?s)```java\n(.*?)```");
    private static final Pattern ANSWERED = Pattern.compile("(x\\..*);\\s+// (-?\\d+)");

    private ReadmeTest() {
    }

    public static void main(String[] args) throws IOException, ReflectiveOperationException {
        Matcher shown = SHOWN.matcher(Files.readString(Path.of("README.md")));
        Due.due("programs shown", shown.find() ? 1 : 0, 1);
        List<String> calls = new ArrayList<>();
        List<Long> answers = new ArrayList<>();
        StringBuilder program = new StringBuilder();
        for (String line : shown.group(1).split("\n")) {
            Matcher answered = ANSWERED.matcher(line);
            if (answered.matches()) {
                program.append("got[").append(calls.size()).append("] = ").append(answered.group(1)).append(";\n");
                calls.add(answered.group(1));
                answers.add(Long.parseLong(answered.group(2)));
            } else {
                program.append(line).append('\n');
            }
        }
        Due.due("forty answers at least are shown", calls.size() >= 40 ? 1 : 0, 1);
        long[] got = run("public final class Shown { public static void run(long[] got) {\n" + program + "} }\n",
            calls.size());
        for (int call = 0; call < got.length; call++) {
            Due.due("README.md: " + calls.get(call), got[call], answers.get(call));
        }
        Due.close();
    }

    private static long[] run(String program, int calls) throws IOException, ReflectiveOperationException {
        Path folder = Files.createTempDirectory("shown");
        Path source = folder.resolve("Shown.java");
        Files.writeString(source, program);
        int ended = ToolProvider.getSystemJavaCompiler().run(null, null, null, "-nowarn",
            "-cp", System.getProperty("java.class.path"), "-d", folder.toString(), source.toString());
        Due.due("the program shown is compiled", ended, 0);
        long[] got = new long[calls];
        if (ended == 0) {
            try (URLClassLoader loader = new URLClassLoader(new URL[] {folder.toUri().toURL()})) {
                loader.loadClass("Shown").getMethod("run", long[].class).invoke(null, got);
            }
        }
        for (File each : folder.toFile().listFiles()) {
            Files.delete(each.toPath());
        }
        Files.delete(folder);
        return got;
    }
}
