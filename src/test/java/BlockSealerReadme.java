import java.lang.reflect.Method;
import java.lang.reflect.Modifier;
import java.lang.reflect.Parameter;
import java.nio.file.Files;
import java.nio.file.Path;
import java.util.ArrayList;
import java.util.List;
import java.util.regex.Matcher;
import java.util.regex.Pattern;
import javax.tools.ToolProvider;

/** README.md names every call of the face, and its examples answer what they say. */
public final class BlockSealerReadme {
    private static final Pattern EXAMPLE = Pattern.compile("```java\n(.*?)```", Pattern.DOTALL);
    private static final Pattern ANSWER = Pattern.compile("int (\\w+) = .*; *// (0x[0-9a-f]{8})");
    private static final Pattern ROW = Pattern.compile("\\| `((?:void|int) \\w+\\([^)]*\\))` \\| .+ \\|");

    private static int wrong = 0;

    private static void hold(boolean held, String what) {
        if (!held) {
            wrong++;
            System.out.println("README.md: " + what);
        }
    }

    // Parameter names are not in the compiled class, so types alone are compared.
    private static String declared(Method m) {
        List<String> types = new ArrayList<>();
        for (Parameter p : m.getParameters()) {
            types.add(p.getType().getName());
        }
        return m.getReturnType().getName() + " " + m.getName() + "(" + String.join(", ", types) + ")";
    }

    private static void everyCallHasItsRow(String text) {
        List<String> rows = new ArrayList<>();
        Matcher row = ROW.matcher(text);
        while (row.find()) {
            rows.add(row.group(1).replaceAll("int \\w+([,)])", "int$1"));
        }
        List<String> face = new ArrayList<>();
        for (Method m : BlockSealer.class.getDeclaredMethods()) {
            if (Modifier.isPublic(m.getModifiers())) {
                face.add(declared(m));
            }
        }
        rows.sort(null);
        face.sort(null);
        hold(rows.equals(face), "the rows are " + rows + ", the face is " + face);
        hold(text.contains("| `new BlockSealer()` |"), "no row for the constructor");
    }

    // The example as a program that tells each answer beside which a number stands.
    private static String program(String name, String example) {
        StringBuilder body = new StringBuilder();
        for (String line : example.split("\n")) {
            body.append(line).append('\n');
            Matcher answer = ANSWER.matcher(line);
            hold(answer.matches() || !line.startsWith("int "), "no number beside " + line);
            if (answer.matches()) {
                body.append("told.add(new int[] {" + answer.group(1) + ", " + answer.group(2) + "});\n");
            }
        }
        return "public class " + name + " { public static void run(java.util.List<int[]> told) {\n" + body + "} }\n";
    }

    private static void exampleHolds(String name, String example) throws Exception {
        Path folder = Files.createTempDirectory("readme");
        Path source = folder.resolve(name + ".java");
        Path compiled = folder.resolve(name + ".class");
        try {
            Files.writeString(source, program(name, example));
            int code = ToolProvider.getSystemJavaCompiler().run(null, null, null, "-cp",
                System.getProperty("java.class.path"), "-d", folder.toString(), source.toString());
            hold(code == 0, name + " does not compile");
            if (code == 0) {
                answersHold(name, Files.readAllBytes(compiled));
            }
        } finally {
            Files.deleteIfExists(source);
            Files.deleteIfExists(compiled);
            Files.deleteIfExists(folder);
        }
    }

    private static final class Loader extends ClassLoader {
        Class<?> define(String name, byte[] code) {
            return defineClass(name, code, 0, code.length);
        }
    }

    private static void answersHold(String name, byte[] code) throws Exception {
        List<int[]> told = new ArrayList<>();
        new Loader().define(name, code).getMethod("run", List.class).invoke(null, told);
        hold(!told.isEmpty(), name + " has no answer with a number beside it");
        for (int[] answer : told) {
            hold(answer[0] == answer[1], name + " answers " + Integer.toHexString(answer[0])
                + " where " + Integer.toHexString(answer[1]) + " stands");
        }
    }

    public static void main(String[] args) throws Exception {
        String text = Files.readString(Path.of("README.md"));
        everyCallHasItsRow(text);
        int examples = 0;
        Matcher example = EXAMPLE.matcher(text);
        while (example.find()) {
            examples++;
            exampleHolds("Example" + examples, example.group(1));
        }
        hold(examples > 0, "no example");
        hold(text.contains(".ci/run"), "does not say how to run the tests");
        System.out.println(wrong == 0 ? "README.md is as due" : wrong + " places are wrong");
        if (wrong != 0) {
            System.exit(1);
        }
    }
}
