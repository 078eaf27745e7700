import java.lang.reflect.InvocationTargetException;
import java.lang.reflect.Method;
import java.net.URL;
import java.net.URLClassLoader;
import java.nio.file.Files;
import java.nio.file.Path;
import java.util.ArrayList;
import java.util.List;
import java.util.Map;
import java.util.Set;
import java.util.TreeMap;
import java.util.TreeSet;
import java.util.regex.Matcher;
import java.util.regex.Pattern;
import javax.tools.ToolProvider;

/** README.md says what is so: its examples answer what they tell, its table has every call and what a refused one answers. */
public final class ReadmeTest {
    private static final Path README = Path.of("README.md");
    private static final Path DOCUMENT = Path.of("../shared/DOC.md");
    /** Beyond it even what is refused only when all is full is refused: six actors, twenty times twenty bytes. */
    private static final int OFTEN = 25;

    public static void main(String[] args) throws Exception {
        examples();
        table();
        Check.finish();
    }

    // ---- the examples

    /** The statements of all examples as one method's lines, each answer kept beside the one that is told. */
    private static void examples() throws Exception {
        List<String> statements = new ArrayList<>();
        StringBuilder methods = new StringBuilder();
        for (List<String> block : blocks()) {
            if (block.get(0).startsWith("static ")) {
                methods.append(String.join("\n", block)).append('\n');
            } else {
                block.forEach(line -> statements.add(asked(line)));
            }
        }
        String source = "public final class Readme {\n" + methods
                + "public static void run(java.util.List<Object[]> rows) {\n" + String.join("\n", statements) + "\n}\n}\n";
        List<Object[]> rows = answers(source);
        Check.due("the examples have answers", rows.size() > 15, true);
        for (Object[] row : rows) {
            Check.due(row[0] + " is " + row[2] + ", not " + row[1], row[1].equals(row[2]), true);
        }
    }

    private static List<List<String>> blocks() throws Exception {
        List<List<String>> blocks = new ArrayList<>();
        boolean in = false;
        for (String line : Files.readAllLines(README)) {
            if (line.equals("```java")) {
                blocks.add(new ArrayList<>());
                in = true;
            } else if (line.equals("```")) {
                in = false;
            } else if (in) {
                blocks.get(blocks.size() - 1).add(line);
            }
        }
        return blocks;
    }

    /** "int a = call;  // 0: why" or "call;  // true: why" as what keeps both answers; other lines as they are. */
    private static String asked(String line) {
        Matcher m = Pattern.compile("(?:int (\\w+) = )?(\\S.*?);\\s+// (-?\\w+): .*").matcher(line);
        if (!m.matches()) {
            return line;
        }
        String call = m.group(2);
        String name = call.replace("\"", "\\\"");
        String kept = m.group(1) == null ? call : m.group(1);
        return (m.group(1) == null ? "" : "int " + m.group(1) + " = " + call + "; ")
                + "rows.add(new Object[] {\"" + name + "\", " + kept + ", " + m.group(3) + "});";
    }

    private static List<Object[]> answers(String source) throws Exception {
        Path place = Files.createTempDirectory("readme");
        Path file = place.resolve("Readme.java");
        Files.writeString(file, source);
        int failed = ToolProvider.getSystemJavaCompiler().run(null, null, null,
                "-d", place.toString(), "-cp", System.getProperty("java.class.path"), file.toString());
        Check.due("the examples compile", failed, 0);
        List<Object[]> rows = new ArrayList<>();
        if (failed == 0) {
            try (URLClassLoader loader = new URLClassLoader(new URL[] {place.toUri().toURL()})) {
                loader.loadClass("Readme").getMethod("run", List.class).invoke(null, rows);
            }
        }
        Files.deleteIfExists(place.resolve("Readme.class"));
        Files.deleteIfExists(file);
        Files.deleteIfExists(place);
        return rows;
    }

    // ---- the table

    private static void table() throws Exception {
        Map<String, String> refused = new TreeMap<>();
        Pattern row = Pattern.compile("\\| `(\\w+ \\w+\\(.*?\\))` \\| [A-Z0-9].* \\| (never|`\\S+`) \\|");
        for (String line : Files.readAllLines(README)) {
            Matcher m = row.matcher(line);
            if (m.matches()) {
                String before = refused.put(m.group(1), m.group(2).replace("`", ""));
                Check.due(m.group(1) + " stands once", before == null, true);
            }
        }
        Set<String> face = face();
        Check.due("the table has " + refused.keySet() + ", due is " + face, refused.keySet().equals(face), true);
        for (String call : refused.keySet()) {
            Check.due("refused: " + call + " answers " + refusal(call) + ", the table has " + refused.get(call),
                    refusal(call).equals(refused.get(call)), true);
        }
    }

    private static Set<String> face() throws Exception {
        Set<String> face = new TreeSet<>();
        for (String line : Files.readAllLines(DOCUMENT)) {
            if (line.startsWith("    public ") && !line.contains("=") && !line.contains("public CostumeStock")) {
                face.add(line.replace("    public ", "").replace(";", ""));
            }
        }
        return face;
    }

    /** What a call answers a new object in the end, when it is asked too often and with numbers far too small. */
    private static String refusal(String call) throws Exception {
        String name = call.replaceAll("\\w+ (\\w+)\\(.*", "$1");
        CostumeStock stock = new CostumeStock();
        Object answer = "no such call";
        for (Method method : CostumeStock.class.getMethods()) {
            if (method.getName().equals(name) && method.getDeclaringClass() == CostumeStock.class) {
                for (int i = 0; i < OFTEN; i++) {
                    answer = ask(stock, method);
                }
            }
        }
        return name.equals("state") ? "never" : String.valueOf(answer);
    }

    private static Object ask(CostumeStock stock, Method method) throws Exception {
        Object[] values = new Object[method.getParameterCount()];
        for (int i = 0; i < values.length; i++) {
            values[i] = method.getParameterTypes()[i] == boolean.class ? (Object) false : Integer.MIN_VALUE;
        }
        try {
            return method.invoke(stock, values);
        } catch (InvocationTargetException e) {
            return e.getCause();
        }
    }
}
