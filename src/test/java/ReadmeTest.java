import java.io.IOException;
import java.io.StringWriter;
import java.lang.reflect.Method;
import java.lang.reflect.Modifier;
import java.net.URL;
import java.net.URLClassLoader;
import java.nio.file.Files;
import java.nio.file.Path;
import java.util.ArrayList;
import java.util.List;
import java.util.Set;
import java.util.TreeSet;
import java.util.regex.Matcher;
import java.util.regex.Pattern;
import java.util.stream.Stream;
import javax.tools.JavaCompiler;
import javax.tools.ToolProvider;

/**
 * README.md holds: its program, made of all its java blocks, is compiled as it stands, each call wrapped so that its
 * answer is held against the one told behind it; and its tables are those of the class. It runs in the project's folder.
 */
public final class ReadmeTest {
    private static final Check CHECK = new Check();
    /** A call as a row of its own, with its answer up to the first colon. */
    private static final Pattern CALL = Pattern.compile("(\\s*)(x\\.(\\w+)\\(.*\\));\\s*//\\s*([^:]+?)\\s*(:.*)?");
    private static final Pattern CONSTANT = Pattern.compile("\\b(UNKNOWN|OUTSIDE|STATE|FULL|NONE|LOST)\\b");
    private static final int MOST_CALLS = 512;

    private static int calls;

    public static void main(String[] args) throws Exception {
        String page = Files.readString(Path.of("README.md"));
        List<String> rows = javaRows(page);
        program(rows);
        everyCallIsShown(rows);
        constants(page);
        faults(page);
        callsTable(page);
        refusals(page);
        testsTable(page);
        CHECK.end();
    }

    /** Called by the program that is made of the page. */
    public static void told(String call, long got, long want) {
        calls++;
        CHECK.due("README.md: " + call, got, want);
    }

    private static List<String> javaRows(String page) {
        List<String> rows = new ArrayList<>();
        boolean inside = false;
        for (String row : page.split("\n")) {
            if (row.startsWith("```")) {
                inside = row.equals("```java");
            } else if (inside) {
                rows.add(row);
            }
        }
        return rows;
    }

    private static void program(List<String> rows) throws Exception {
        StringBuilder source = new StringBuilder("public final class ReadmeProgram {\npublic static void run() {\n");
        int wrapped = 0;
        for (String row : rows) {
            Matcher call = CALL.matcher(row);
            boolean is = call.matches();
            CHECK.due("README.md tells what is answered: " + row, is || !row.contains("x."));
            source.append(is ? wrap(call) : row).append('\n');
            wrapped += is ? 1 : 0;
        }
        runProgram(source.append("}\n}\n").toString());
        CHECK.due("every call of README.md is made: " + wrapped + ", " + calls, wrapped > 0 && calls >= wrapped);
        CHECK.due("an object is used for 512 calls at most: " + calls, calls <= MOST_CALLS);
    }

    private static String wrap(Matcher call) {
        String words = call.group(2).replace("\\", "\\\\").replace("\"", "\\\"");
        String answer = CONSTANT.matcher(call.group(4)).replaceAll("CafeTables.$1");
        return "ReadmeTest.told(\"" + words + "\", " + call.group(2) + ", " + answer + ");";
    }

    private static void runProgram(String source) throws Exception {
        Path folder = Files.createTempDirectory("readme");
        Path file = folder.resolve("ReadmeProgram.java");
        Path made = folder.resolve("ReadmeProgram.class");
        try {
            Files.writeString(file, source);
            JavaCompiler javac = ToolProvider.getSystemJavaCompiler();
            StringWriter said = new StringWriter();
            List<String> how = List.of("-d", folder.toString(), "-cp", System.getProperty("java.class.path"));
            boolean is = javac.getTask(said, null, null, how, null,
                javac.getStandardFileManager(null, null, null).getJavaFileObjects(file)).call();
            CHECK.due("the program of README.md compiles: " + said, is);
            if (is) {
                try (URLClassLoader loader = new URLClassLoader(new URL[] {folder.toUri().toURL()})) {
                    loader.loadClass("ReadmeProgram").getMethod("run").invoke(null);
                }
            }
        } finally {
            Files.deleteIfExists(file);
            Files.deleteIfExists(made);
            Files.deleteIfExists(folder);
        }
    }

    private static void everyCallIsShown(List<String> rows) {
        String all = String.join("\n", rows);
        for (Method m : CafeTables.class.getDeclaredMethods()) {
            if (Modifier.isPublic(m.getModifiers())) {
                CHECK.due("README.md shows " + m.getName(), all.contains("x." + m.getName() + "("));
            }
        }
    }

    private static void constants(String page) throws Exception {
        for (String name : new String[] {"UNKNOWN", "OUTSIDE", "STATE", "FULL"}) {
            Matcher row = Pattern.compile("\\| `" + name + "` \\| (-\\d+) \\|").matcher(page);
            boolean is = row.find();
            CHECK.due("README.md has a row of " + name, is);
            if (is) {
                CHECK.due(name, Long.parseLong(row.group(1)), CafeTables.class.getField(name).getInt(null));
            }
        }
        CHECK.due("README.md tells NONE", page.contains("`NONE` (" + CafeTables.NONE + ")"));
    }

    private static void faults(String page) {
        String[] names = {"NULL", "CAST", "INDEX", "SIZE"};
        for (int k = 1; k <= names.length; k++) {
            String row = "| " + k + " " + names[k - 1] + " | " + (-10 - k) + " |";
            CHECK.due("README.md has the row " + row, page.contains(row));
        }
    }

    /** The calls in the document's order, with its names of what they take. */
    private static void callsTable(String page) throws IOException {
        List<String> face = new ArrayList<>();
        Matcher m = Pattern.compile("(?m)^ {4}public (?:int|long) (\\w+\\(.*\\));$")
            .matcher(Files.readString(Path.of("../shared/DOC.md")));
        while (m.find()) {
            face.add(m.group(1).replaceAll("(int|boolean) ", ""));
        }
        List<String> told = new ArrayList<>();
        Matcher row = Pattern.compile("(?m)^\\| `(\\w+\\(.*?\\))` \\|").matcher(page);
        while (row.find()) {
            told.add(row.group(1));
        }
        CHECK.due("the document has 30 calls", face.size(), 30);
        CHECK.due("README.md tells the document's calls: " + told, told.equals(face));
    }

    /** What a call refuses and comes to, in the order of the last sentence of its line in the document. */
    private static void refusals(String page) throws IOException {
        Matcher line = Pattern.compile("(?m)^`(?:int|long) (\\w+)\\(.*?\\)`: (.*)$")
            .matcher(Files.readString(Path.of("../shared/DOC.md")));
        int many = 0;
        while (line.find()) {
            many++;
            String[] sentences = line.group(2).replace("(nothing is no CAST)", "").split("(?<!\\.)\\. ");
            Matcher row = Pattern.compile("(?m)^\\| `" + line.group(1) + "\\(.*?\\)` \\|(.*)$").matcher(page);
            String told = row.find() ? refusalsIn(row.group(1)) : "no row";
            CHECK.due("README.md tells what " + line.group(1) + " refuses: " + told,
                told.equals(refusalsIn(sentences[sentences.length - 1])));
        }
        CHECK.due("the document has 30 lines of calls", many, 30);
    }

    private static String refusalsIn(String words) {
        StringBuilder row = new StringBuilder();
        Matcher name = Pattern.compile("\\b(UNKNOWN|OUTSIDE|STATE|FULL|NULL|CAST|INDEX|SIZE|LOST)\\b").matcher(words);
        while (name.find()) {
            // Where a long is answered, LOST may stand ahead of what it is told for, or behind it.
            row.append(name.group().equals("LOST") ? "" : name.group() + " ");
        }
        return row.toString();
    }

    private static void testsTable(String page) throws IOException {
        Set<String> told = new TreeSet<>();
        Matcher name = Pattern.compile("`(\\w+Test)`").matcher(page);
        while (name.find()) {
            told.add(name.group(1));
        }
        Set<String> there = new TreeSet<>();
        try (Stream<Path> files = Files.list(Path.of("src/test/java"))) {
            files.map(f -> f.getFileName().toString()).filter(f -> f.endsWith("Test.java"))
                .forEach(f -> there.add(f.substring(0, f.length() - ".java".length())));
        }
        CHECK.due("README.md tells the tests that there are: " + told + ", " + there, told.equals(there));
    }
}
