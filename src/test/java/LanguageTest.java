import java.lang.reflect.Constructor;
import java.lang.reflect.Field;
import java.lang.reflect.Method;
import java.lang.reflect.Modifier;
import java.nio.charset.StandardCharsets;
import java.nio.file.Files;
import java.nio.file.Path;
import java.util.ArrayList;
import java.util.List;
import java.util.Set;
import java.util.TreeSet;
import java.util.regex.Matcher;
import java.util.regex.Pattern;

/** The class's face is the document's, and its source keeps to the rules of LANGUAGE.md that a look can tell. */
public final class LanguageTest {
    private static final Path SOURCE = Path.of("src/main/java/CostumeStock.java");
    private static final Path DOCUMENT = Path.of("../shared/DOC.md");

    public static void main(String[] args) throws Exception {
        face();
        names();
        sizes();
        words();
        objects();
        Check.finish();
    }

    private static void holds(String rule, boolean kept) {
        Check.due(rule, kept, true);
    }

    /** The face as the document's code tells it: "int of(int, int)". */
    private static Set<String> documentFace() throws Exception {
        Set<String> face = new TreeSet<>();
        Pattern method = Pattern.compile("^    public (\\w+) (\\w+)\\((.*)\\);$");
        for (String line : Files.readAllLines(DOCUMENT)) {
            Matcher m = method.matcher(line);
            if (m.matches()) {
                List<String> types = new ArrayList<>();
                for (String parameter : m.group(3).split(", ")) {
                    types.add(parameter.split(" ")[0]);
                }
                face.add(m.group(1) + " " + m.group(2) + "(" + String.join(", ", types) + ")");
            }
        }
        return face;
    }

    private static void face() throws Exception {
        Set<String> face = new TreeSet<>();
        for (Method m : CostumeStock.class.getDeclaredMethods()) {
            if (Modifier.isPublic(m.getModifiers())) {
                List<String> types = new ArrayList<>();
                for (Class<?> type : m.getParameterTypes()) {
                    types.add(type.getSimpleName());
                }
                face.add(m.getReturnType().getSimpleName() + " " + m.getName() + "(" + String.join(", ", types) + ")");
                holds(m.getName() + " is no static method", !Modifier.isStatic(m.getModifiers()));
            } else if (!m.isSynthetic()) {
                holds(m.getName() + " is private", Modifier.isPrivate(m.getModifiers()));
            }
        }
        Set<String> due = documentFace();
        Check.due("methods of the document", due.size(), 41);
        holds("the face is " + due + ", not " + face, due.equals(face));
        for (Field f : CostumeStock.class.getDeclaredFields()) {
            boolean hidden = Modifier.isPrivate(f.getModifiers());
            holds(f.getName() + " is private, or NONE", hidden || f.getName().equals("NONE"));
        }
        Constructor<?>[] made = CostumeStock.class.getDeclaredConstructors();
        Check.due("constructors", made.length, 1);
        holds("the constructor is public and takes nothing",
                Modifier.isPublic(made[0].getModifiers()) && made[0].getParameterCount() == 0);
        holds("the class is final", Modifier.isFinal(CostumeStock.class.getModifiers()));
        Check.due("NONE", CostumeStock.NONE, -1);
    }

    private static void names() {
        Set<String> known = new TreeSet<>();
        for (Method m : CostumeStock.class.getDeclaredMethods()) {
            if (Modifier.isPublic(m.getModifiers())) {
                known.add(m.getName());
            }
        }
        for (Method m : CostumeStock.class.getDeclaredMethods()) {
            boolean open = Modifier.isPublic(m.getModifiers());
            holds(m.getName() + " bears no public name", open || !known.contains(m.getName()));
        }
        for (Class<?> inside : CostumeStock.class.getDeclaredClasses()) {
            holds(inside.getName() + " is static", Modifier.isStatic(inside.getModifiers()));
            for (Method m : inside.getDeclaredMethods()) {
                holds(inside.getName() + "." + m.getName() + " bears no public name", !known.contains(m.getName()));
            }
        }
    }

    private static void sizes() throws Exception {
        List<Class<?>> all = new ArrayList<>(List.of(CostumeStock.class.getDeclaredClasses()));
        all.add(CostumeStock.class);
        holds("twelve classes at most", all.size() <= 12);
        for (Class<?> one : all) {
            int fields = 0;
            for (Field f : one.getDeclaredFields()) {
                boolean constant = Modifier.isStatic(f.getModifiers());
                fields += constant ? 0 : 1;
                holds(f.getName() + ", static, is final", !constant || Modifier.isFinal(f.getModifiers()));
            }
            holds(one.getName() + " has twenty fields at most", fields <= 20);
            for (Method m : one.getDeclaredMethods()) {
                holds(m.getName() + " takes seven parameters at most", m.getParameterCount() <= 7);
            }
        }
        int from = 0;
        String indent = "";
        List<String> lines = code();
        for (int i = 0; i < lines.size(); i++) {
            Matcher m = Pattern.compile("^( {4}| {8})\\S.*\\) \\{$").matcher(lines.get(i));
            if (m.matches()) {
                from = i;
                indent = m.group(1);
            } else if (!indent.isEmpty() && lines.get(i).equals(indent + "}")) {
                holds("the method at line " + (from + 1) + " has sixty lines at most", i - from <= 60);
                indent = "";
            }
        }
    }

    /** The source's lines without comments, texts and signs in quotes. */
    private static List<String> code() throws Exception {
        String source = Files.readString(SOURCE, StandardCharsets.ISO_8859_1);
        holds("signs 1 to 127 alone", source.chars().allMatch(c -> c >= 1 && c <= 127));
        Matcher comment = Pattern.compile("/\\*.*?\\*/", Pattern.DOTALL).matcher(source);
        String bare = comment.replaceAll(m -> "\n".repeat((int) m.group().chars().filter(c -> c == '\n').count()));
        bare = bare.replaceAll("//[^\n]*", "").replaceAll("\"[^\"\n]*\"", "TEXT").replaceAll("'(\\\\.|[^'\\\\])'", "0");
        return List.of(bare.split("\n", -1));
    }

    private static void words() throws Exception {
        Pattern ruledOut = Pattern.compile("\\b(throw|throws|try|catch|finally|synchronized|assert|import|package"
                + "|protected|volatile|native|transient|double|float|Object|equals|hashCode|toString"
                + "|System\\.(?!arraycopy)\\w+|(Integer|Long)\\.[A-Z_]+|\\w+Exact)\\b|->|::|TEXT \\+|\\+ TEXT");
        List<String> lines = code();
        for (int i = 0; i < lines.size(); i++) {
            Matcher m = ruledOut.matcher(lines.get(i));
            if (m.find()) {
                holds("line " + (i + 1) + " has " + m.group(), false);
            }
        }
    }

    /** No call makes an object: rows are made where fields are, or in the one constructor that fills an array. */
    private static void objects() throws Exception {
        List<String> lines = code();
        for (int i = 0; i < lines.size(); i++) {
            String line = lines.get(i).trim();
            if (line.contains("new ")) {
                boolean field = line.matches("(private )?final [\\w\\[\\]]+ \\w+ = new .*;");
                holds("line " + (i + 1) + " makes no object", field || line.equals("stocks[i] = new Stock();"));
            }
        }
    }
}
