import java.io.IOException;
import java.lang.reflect.Constructor;
import java.lang.reflect.Field;
import java.lang.reflect.Method;
import java.lang.reflect.Modifier;
import java.nio.file.Files;
import java.nio.file.Path;
import java.util.Arrays;
import java.util.HashSet;
import java.util.Set;
import java.util.TreeSet;
import java.util.regex.Matcher;
import java.util.regex.Pattern;

/** The public face, and those rules of LANGUAGE.md that can be read off the source. It runs in the project's folder. */
public final class FormTest {
    private static final Check CHECK = new Check();
    private static final String[] FACE = {
        "int cafe(int,int,int,int)", "int ofTable(int,int)", "int rule(int)", "int patience(int)",
        "int joining(boolean)", "int rain(int)", "int group(int,int,int,int,int,int)", "int ofGroup(int,int)",
        "int day(int,int)", "int taken(int,int)", "int coin()", "long worth(int)", "int plan(int)",
        "int bestRule(int)", "int waiting(int)", "int mix(int,int)", "int till(int,int)",
        "long names(int,int,int,int,int,int)", "int take(int,int,int,int)", "int sheet(int,int,int)",
        "int lose(int)", "int put(int,int,int)", "long cell(int,int,int)", "int copy(int,int,int,int,int)",
        "int tell(int)", "int serve(int)", "int as(int,int)", "int trace()", "int fault()", "int many(int)"};

    public static void main(String[] args) throws Exception {
        methods();
        fields();
        makings();
        insides();
        source();
        CHECK.end();
    }

    private static void methods() {
        Set<String> got = new TreeSet<>();
        Set<String> publicNames = new HashSet<>();
        for (Method m : CafeTables.class.getDeclaredMethods()) {
            if (Modifier.isPublic(m.getModifiers())) {
                StringBuilder line = new StringBuilder(m.getReturnType() + " " + m.getName() + "(");
                for (Class<?> p : m.getParameterTypes()) {
                    line.append(line.charAt(line.length() - 1) == '(' ? "" : ",").append(p);
                }
                got.add(line.append(")").toString());
                publicNames.add(m.getName());
            }
        }
        CHECK.due("the methods are the document's: " + got, got.equals(new TreeSet<>(Arrays.asList(FACE))));
        for (Method m : CafeTables.class.getDeclaredMethods()) {
            int how = m.getModifiers();
            CHECK.due(m + " is public or private", Modifier.isPublic(how) || Modifier.isPrivate(how));
            CHECK.due(m + " bears no public name", Modifier.isPublic(how) || !publicNames.contains(m.getName()));
            CHECK.due(m + " takes seven at most", m.getParameterCount() <= 7);
        }
    }

    private static void fields() throws Exception {
        String[] names = {"UNKNOWN", "OUTSIDE", "STATE", "FULL", "NONE", "LOST"};
        long[] values = {-1, -2, -3, -4, -9, Long.MIN_VALUE};
        for (int k = 0; k < names.length; k++) {
            Field f = CafeTables.class.getDeclaredField(names[k]);
            CHECK.due(names[k], ((Number) f.get(null)).longValue(), values[k]);
            CHECK.due(names[k] + " is of its type", f.getType() == (k == 5 ? long.class : int.class));
            CHECK.due(names[k] + " is a public constant", f.getModifiers(), Modifier.PUBLIC | Modifier.STATIC | Modifier.FINAL);
        }
        for (Field f : CafeTables.class.getDeclaredFields()) {
            boolean ofFace = Arrays.asList(names).contains(f.getName());
            CHECK.due(f + " is private", ofFace || Modifier.isPrivate(f.getModifiers()));
            CHECK.due(f + " is no static state", !Modifier.isStatic(f.getModifiers()) || Modifier.isFinal(f.getModifiers()));
        }
    }

    private static void makings() {
        Constructor<?>[] all = CafeTables.class.getDeclaredConstructors();
        CHECK.due("one constructor", all.length, 1);
        CHECK.due("without arguments", all[0].getParameterCount(), 0);
        CHECK.due("public", Modifier.isPublic(all[0].getModifiers()));
        CHECK.due("the class is public and final", CafeTables.class.getModifiers(), Modifier.PUBLIC | Modifier.FINAL);
    }

    private static void insides() {
        Class<?>[] inside = CafeTables.class.getDeclaredClasses();
        CHECK.due("some twelve classes at most", inside.length <= 12);
        for (Class<?> c : inside) {
            CHECK.due(c + " is static", Modifier.isStatic(c.getModifiers()));
            CHECK.due(c + " is not of the face", (c.getModifiers() & (Modifier.PUBLIC | Modifier.PROTECTED)) == 0);
            int fields = 0;
            for (Field f : c.getDeclaredFields()) {
                boolean is = Modifier.isStatic(f.getModifiers());
                CHECK.due(f + " is no static state", !is || Modifier.isFinal(f.getModifiers()));
                fields += is ? 0 : 1;
            }
            CHECK.due(c + " has some twenty fields at most", fields <= 20);
            for (Method m : c.getDeclaredMethods()) {
                CHECK.due(m + " takes seven at most", m.getParameterCount() <= 7);
            }
        }
    }

    private static void source() throws IOException {
        String text = Files.readString(Path.of("src/main/java/CafeTables.java"));
        CHECK.due("signs 1 to 127", text.chars().allMatch(c -> c >= 1 && c <= 127));
        CHECK.due("no package", !Pattern.compile("^package ", Pattern.MULTILINE).matcher(text).find());
        String code = text.replaceAll("(?s)/\\*.*?\\*/", "").replaceAll("//[^\n]*", "");
        String[] words = {"throw", "throws", "try", "catch", "finally", "synchronized", "assert", "Exact", "toString",
            "hashCode", "random", "Random", "System\\.(?!arraycopy)\\w+", "Thread", "native", "volatile", "record", "var"};
        for (String w : words) {
            Matcher m = Pattern.compile("\\b" + w + "\\b|Exact\\(").matcher(code);
            CHECK.due("no " + w, !m.find());
        }
        CHECK.due("no lambda", !code.contains("->"));
        CHECK.due("no method reference", !code.contains("::"));
        Matcher imports = Pattern.compile("import ([^;]*);").matcher(code);
        while (imports.find()) {
            CHECK.due(imports.group(1) + " may be used", imports.group(1).equals("java.util.Arrays"));
        }
    }
}
