import java.io.IOException;
import java.lang.reflect.Constructor;
import java.lang.reflect.Field;
import java.lang.reflect.Method;
import java.lang.reflect.Modifier;
import java.nio.file.Files;
import java.nio.file.Path;
import java.util.Set;
import java.util.TreeSet;
import java.util.regex.Matcher;
import java.util.regex.Pattern;

/** The face of the document, and such rules of LANGUAGE.md as can be read off the source. */
public final class RulesTest {
    private static final Path SOURCE = Path.of("src/main/java/ProtoOrders.java");

    private static final String[] FACE = {
        "int row(int,int,int)", "int set(int,int,long)", "int copy(int,int,int,int,int)",
        "long element(int,int)", "int show(int,int)", "int holds(int)", "int says(int,int)",
        "int read(int)", "int fault()", "int make(int,int,int,int,int)",
        "int wouldBe(int,int,int,int,int)", "int value(int,int,int)", "int method(int,int,int,int)",
        "int remove(int,int)", "int objectOf(int,int)", "int order(int,int)",
        "int distance(int,int)", "int where(int,int)", "int hidden(int,int)",
        "int slotOf(int,int,int)", "int send(int,int,int)", "int given()",
        "int trial(int,int,int,int)", "int way(int,int,int,int,int,int)", "int wayOf(int,int)",
        "int applies(int,int,int,int,int)", "int tie(int,int,int)", "int call(int,int,int,int)",
        "int trace(int)", "int judge(int,int,int,int)", "int days(int)", "int seed(int)",
        "int image()", "int restore()", "int status(int)"};

    private static final String[] FORBIDDEN = {"\\bthrow\\b", "\\bthrows\\b", "\\btry\\b", "\\bcatch\\b",
        "\\bsynchronized\\b", "\\bassert\\b", "->", "::", "\\w+Exact\\b", "\\bprotected\\b",
        "\\bequals\\b", "\\bhashCode\\b", "\\btoString\\b", "\\bimport (?!java\\.util\\.Arrays;)",
        "\\bpackage\\b", "\\bSystem\\.(?!arraycopy\\b)", "\\bstatic (?!final\\b)\\w+ \\w+( =|;)",
        "[^\\x00-\\x7f]"};

    private RulesTest() {
    }

    private static Set<String> publicMethods() {
        Set<String> names = new TreeSet<>();
        for (Method method : ProtoOrders.class.getDeclaredMethods()) {
            if (!Modifier.isPrivate(method.getModifiers())) {
                StringBuilder types = new StringBuilder();
                for (Class<?> type : method.getParameterTypes()) {
                    types.append(types.length() == 0 ? "" : ",").append(type);
                }
                names.add(method.getReturnType() + " " + method.getName() + "(" + types + ")");
            }
        }
        return names;
    }

    private static void face() throws NoSuchMethodException {
        Set<String> due = new TreeSet<>(java.util.List.of(FACE));
        Set<String> got = publicMethods();
        for (String name : due) {
            Due.due("there is " + name, got.contains(name) ? 1 : 0, 1);
        }
        Due.due("no other methods than the face's", got.size(), due.size());
        int fields = 0;
        for (Field field : ProtoOrders.class.getDeclaredFields()) {
            fields += Modifier.isPrivate(field.getModifiers()) ? 0 : 1;
        }
        Due.due("NONE alone is public", fields, 1);
        Constructor<?>[] made = ProtoOrders.class.getDeclaredConstructors();
        Due.due("one constructor", made.length, 1);
        Due.due("it is public", Modifier.isPublic(ProtoOrders.class.getConstructor().getModifiers()) ? 1 : 0, 1);
        int wanted = Modifier.PUBLIC | Modifier.FINAL;
        Due.due("public and final", ProtoOrders.class.getModifiers() & wanted, wanted);
    }

    private static void insides() {
        Set<String> faceNames = new TreeSet<>();
        for (String name : FACE) {
            faceNames.add(name.substring(name.indexOf(' ') + 1, name.indexOf('(')));
        }
        Class<?>[] inside = ProtoOrders.class.getDeclaredClasses();
        Due.due("classes are some twelve", inside.length <= 12 ? 1 : 0, 1);
        for (Class<?> each : inside) {
            Due.due(each.getName() + " is static", Modifier.isStatic(each.getModifiers()) ? 1 : 0, 1);
            for (Method method : each.getDeclaredMethods()) {
                Due.due(each.getName() + "." + method.getName() + " bears a name of the face",
                    faceNames.contains(method.getName()) ? 1 : 0, 0);
            }
        }
        for (Method method : ProtoOrders.class.getDeclaredMethods()) {
            if (Modifier.isPrivate(method.getModifiers())) {
                Due.due(method.getName() + " bears a name of the face", faceNames.contains(method.getName()) ? 1 : 0, 0);
            }
        }
    }

    private static void source() throws IOException {
        String all = Files.readString(SOURCE);
        String code = all.replaceAll("(?s)/\\*.*?\\*/", "").replaceAll("//[^\n]*", "");
        for (String forbidden : FORBIDDEN) {
            Matcher found = Pattern.compile(forbidden).matcher(code);
            Due.due("in the source: " + forbidden, found.find() ? 1 : 0, 0);
        }
        for (String line : code.split("\n")) {
            boolean kept = line.matches("\\s+(private )?final .*");
            Due.due("objects are made with the class alone: " + line, line.contains("new ") && !kept ? 1 : 0, 0);
        }
        int longest = 0;
        int since = -1;
        String[] lines = all.split("\n");
        for (int i = 0; i < lines.length; i++) {
            if (lines[i].matches(" {4,8}[\\w\\[\\]<> ]+\\(.*\\) \\{")) {
                since = i;
            } else if (since >= 0 && lines[i].matches(" {4,8}\\}")) {
                longest = Math.max(longest, i - since + 1);
                since = -1;
            }
        }
        Due.due("the longest method has some sixty lines at most", longest > 1 && longest <= 60 ? 1 : 0, 1);
    }

    public static void main(String[] args) throws IOException, NoSuchMethodException {
        face();
        insides();
        source();
        Due.end("RulesTest");
    }
}
