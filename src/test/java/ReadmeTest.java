import java.io.ByteArrayOutputStream;
import java.io.IOException;
import java.io.PrintStream;
import java.lang.reflect.Method;
import java.lang.reflect.Modifier;
import java.net.URL;
import java.net.URLClassLoader;
import java.nio.charset.StandardCharsets;
import java.nio.file.DirectoryStream;
import java.nio.file.Files;
import java.nio.file.Path;
import java.util.ArrayList;
import java.util.List;
import java.util.regex.Matcher;
import java.util.regex.Pattern;
import javax.tools.ToolProvider;

/** README.md: its calls answer what it says, its tables and printed lines are right, none is left out. */
final class ReadmeTest {
    private static final Pattern BLOCK = Pattern.compile("(?ms)^```(\\w+)\\n(.*?)^```$");
    private static final Pattern ANSWERED = Pattern.compile("(?m)^(lisp\\..+);\\s*// answers (-?\\w+).*$");
    private static final Pattern FORM_ROW = Pattern.compile("(?m)^\\| `(\\(.+?)` \\| `(.+?)` \\|.*\\|$");
    private static final Pattern ERROR_ROW =
        Pattern.compile("(?m)^\\| `(ERR_\\w+)` \\| `(\\w+)` \\|.+?\\| (?:`(.+?)` )?\\|$");

    public static void main(String[] args) throws Exception {
        String readme = Files.readString(Path.of("README.md")).replace("\r\n", "\n");
        formsGiveTheirValues(readme);
        errorsAreMet(readme);
        everyTestIsNamed(readme);

        Path folder = Files.createTempDirectory("readme");
        try {
            List<String> files = new ArrayList<>();
            StringBuilder calls = new StringBuilder();
            for (String block : blocks(readme, "java")) {
                if (block.contains("public class")) {
                    files.add(block);
                } else {
                    calls.append(block);
                }
            }
            Check.same("files to copy", files.size(), 1);
            Files.writeString(folder.resolve("Example.java"), files.get(0));
            Files.writeString(folder.resolve("Calls.java"), recorder(calls.toString()));
            compile(folder);
            try (URLClassLoader loader = new URLClassLoader(new URL[] {folder.toUri().toURL()})) {
                exampleEnds(loader.loadClass("Example"), blocks(readme, "text"));
                callsAnswer(loader.loadClass("Calls"), calls.toString());
            }
        } finally {
            remove(folder);
        }
        Check.end();
    }

    private static List<String> blocks(String readme, String language) {
        List<String> found = new ArrayList<>();
        Matcher matcher = BLOCK.matcher(readme);
        while (matcher.find()) {
            if (matcher.group(1).equals(language)) {
                found.add(matcher.group(2));
            }
        }
        return found;
    }

    /** The calls as a class that notes, for each that is said to answer, the call, its answer and the due one. */
    private static String recorder(String calls) {
        String noted = ANSWERED.matcher(calls).replaceAll(match -> {
            String due = match.group(2).matches("[A-Z_]+") ? "SecdLisp." + match.group(2) : match.group(2);
            String call = match.group(1);
            return Matcher.quoteReplacement("noted.add(new String[] {\"" + call.replace("\"", "\\\"")
                + "\", \"\" + (" + call + "), \"\" + (" + due + ")});");
        });
        return "public final class Calls {\n"
            + "public static java.util.List<String[]> make() {\n"
            + "java.util.List<String[]> noted = new java.util.ArrayList<>();\n"
            + noted + "return noted;\n}\n}\n";
    }

    private static void compile(Path folder) {
        ByteArrayOutputStream told = new ByteArrayOutputStream();
        int code = ToolProvider.getSystemJavaCompiler().run(null, told, told, "-Xlint:all", "-Werror",
            "-cp", System.getProperty("java.class.path"), "-d", folder.toString(),
            folder.resolve("Example.java").toString(), folder.resolve("Calls.java").toString());
        Check.same("compiling the calls " + told, code, 0);
    }

    private static void exampleEnds(Class<?> example, List<String> printed) throws Exception {
        PrintStream out = System.out;
        ByteArrayOutputStream caught = new ByteArrayOutputStream();
        System.setOut(new PrintStream(caught, true, StandardCharsets.UTF_8));
        try {
            example.getMethod("main", String[].class).invoke(null, (Object) new String[0]);
        } finally {
            System.setOut(out);
        }
        String lines = caught.toString(StandardCharsets.UTF_8).replace("\r\n", "\n");
        Check.same("printed lines", lines, String.join("", printed));
    }

    private static void callsAnswer(Class<?> recorder, String calls) throws Exception {
        List<?> noted = (List<?>) recorder.getMethod("make").invoke(null);
        StringBuilder made = new StringBuilder(calls.contains("lisp.clear();") ? "lisp.clear(" : "");
        for (Object note : noted) {
            String[] parts = (String[]) note;
            Check.same(parts[0], parts[1], parts[2]);
            made.append(' ').append(parts[0]);
        }
        // A comment in another form than the pattern's would go by unlooked at.
        Check.same("answers looked at", noted.size(), calls.split("// answers", -1).length - 1);
        for (Method method : SecdLisp.class.getDeclaredMethods()) {
            if (Modifier.isPublic(method.getModifiers())) {
                Check.same(method.getName() + " is shown", made.toString().contains("lisp." + method.getName() + "("),
                    true);
            }
        }
    }

    private static void formsGiveTheirValues(String readme) {
        Matcher row = FORM_ROW.matcher(readme);
        StringBuilder shown = new StringBuilder();
        while (row.find()) {
            Check.same("value of " + row.group(1), Check.show(Check.ran(32, row.group(1))), row.group(2));
            shown.append(' ').append(row.group(1).replace("(", " ( "));
        }
        for (String keyword : "quote lambda let letrec if cons car cdr null add sub mul div eq lt".split(" ")) {
            Check.same(keyword + " is shown", shown.toString().contains(" " + keyword + " "), true);
        }
    }

    private static void errorsAreMet(String readme) throws IllegalAccessException, NoSuchFieldException {
        Matcher row = ERROR_ROW.matcher(readme);
        int rows = 0;
        while (row.find()) {
            rows++;
            SecdLisp lisp = new SecdLisp(32);
            boolean compiling = row.group(2).equals("compile");
            if (row.group(3) != null) {
                Check.hand(lisp, row.group(3));
                int compiled = lisp.compile();
                Check.same("accepted " + row.group(3), compiled == SecdLisp.OK, !compiling);
            }
            int answered = compiling ? lisp.compile() : lisp.run(400);
            Check.same(row.group(2) + " of " + row.group(3), answered,
                SecdLisp.class.getField(row.group(1)).getInt(null));
        }
        Check.same("errors told", rows, SecdLisp.ERR_ARITY);
    }

    private static void everyTestIsNamed(String readme) throws IOException {
        try (DirectoryStream<Path> files = Files.newDirectoryStream(Path.of("src/test/java"), "*.java")) {
            for (Path file : files) {
                String name = file.getFileName().toString().replace(".java", "");
                Check.same(name + " is named", readme.contains("`" + name + "`"), true);
            }
        }
    }

    private static void remove(Path folder) throws IOException {
        try (DirectoryStream<Path> files = Files.newDirectoryStream(folder)) {
            for (Path file : files) {
                Files.delete(file);
            }
        }
        Files.delete(folder);
    }
}
