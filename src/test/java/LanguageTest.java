import java.io.IOException;
import java.lang.reflect.Constructor;
import java.lang.reflect.Field;
import java.lang.reflect.Method;
import java.lang.reflect.Modifier;
import java.nio.file.Files;
import java.nio.file.Path;
import java.util.ArrayList;
import java.util.List;
import java.util.Set;
import java.util.TreeSet;
import java.util.regex.Matcher;
import java.util.regex.Pattern;

/** The face of the document, and the rules of LANGUAGE.md that a machine can see; run from the project's folder. */
public final class LanguageTest {
    private static final Check CHECK = new Check();
    private static final String[] FACE = {
        "int type(int)", "int clear()", "int land()", "int height(int)", "int town(int)", "int bolt(int,int)",
        "int card(int,int)", "int road(int,int)", "int now(int)", "int begins(int)", "int weaves(int,int)",
        "int turnAbout(int)", "int rain()", "int undo()", "int joined(int,int)", "int toWeave()",
        "int way(int,int)", "int darners(int)", "int odds(int,int,int)", "int wrong(int,int,int)",
        "int look(int,int)", "int rate(int,int)", "int keep(int)", "int back(int)", "int count(int)", "long trace()"
    };
    private static final String FORBIDDEN =
            "\\b(throw|throws|try|catch|synchronized|assert|import|package|double|float|protected|volatile|yield)\\b"
            + "|->|::|Exact\\b|\\bSystem\\.(?!arraycopy)|==\\s*\"|\"\\s*\\+|\\+\\s*\"";
    /** A method of the class or of one inside it: its indent, its head, its body. */
    private static final String METHOD =
            "(?m)^( {4}| {8})(?=\\S)(?!if |for |while |switch |\\})([^\n]*\\)) \\{\n((?:\\1 [^\n]*\n|\n)*)\\1\\}";
    private static final int MOST_LINES = 60;
    private static final int MOST_CLASSES = 12;
    private static final int MOST_FIELDS = 20;
    private static final int MOST_PARAMETERS = 7;

    public static void main(String[] args) throws IOException {
        face();
        constants();
        hiddenMembers();
        for (Class<?> inside : classes()) {
            shape(inside);
        }
        CHECK.holds("at most some twelve classes", classes().size() <= MOST_CLASSES);
        source(Files.readString(Path.of("src/main/java/WovenRoads.java")));
        CHECK.finish("LanguageTest");
    }

    private static List<Class<?>> classes() {
        List<Class<?>> classes = new ArrayList<>(List.of(WovenRoads.class.getDeclaredClasses()));
        classes.add(WovenRoads.class);
        return classes;
    }

    private static void face() {
        Set<String> got = new TreeSet<>();
        for (Method method : WovenRoads.class.getDeclaredMethods()) {
            if (Modifier.isPublic(method.getModifiers())) {
                StringBuilder text = new StringBuilder(method.getReturnType() + " " + method.getName() + "(");
                for (Class<?> type : method.getParameterTypes()) {
                    text.append(text.charAt(text.length() - 1) == '(' ? "" : ",").append(type);
                }
                got.add(text + ")");
            }
        }
        CHECK.holds("the public methods are " + got, got.equals(new TreeSet<>(List.of(FACE))));
        Constructor<?>[] constructors = WovenRoads.class.getConstructors();
        CHECK.holds("one public constructor without parameters",
                constructors.length == 1 && constructors[0].getParameterCount() == 0);
        CHECK.holds("a public final class", WovenRoads.class.getModifiers() == (Modifier.PUBLIC | Modifier.FINAL));
    }

    private static void constants() {
        CHECK.due("BAD", WovenRoads.BAD, -1);
        CHECK.due("STATE", WovenRoads.STATE, -2);
        CHECK.due("FULL", WovenRoads.FULL, -3);
        CHECK.due("NONE", WovenRoads.NONE, -9);
        CHECK.due("NO", WovenRoads.NO, -1000000);
        CHECK.due("public fields", WovenRoads.class.getFields().length, 5);
    }

    private static void hiddenMembers() {
        Set<String> publicNames = new TreeSet<>();
        for (String method : FACE) {
            publicNames.add(method.substring(method.indexOf(' ') + 1, method.indexOf('(')));
        }
        for (Field field : WovenRoads.class.getDeclaredFields()) {
            boolean told = (field.getModifiers() & (Modifier.PUBLIC | Modifier.PRIVATE)) != 0;
            CHECK.holds(field + " is public or private", told);
        }
        for (Class<?> owner : classes()) {
            for (Method method : owner.getDeclaredMethods()) {
                boolean open = Modifier.isPublic(method.getModifiers());
                CHECK.holds(method + " bears a name of its own", open || !publicNames.contains(method.getName()));
                CHECK.holds(method + " is the face's or hidden",
                        owner != WovenRoads.class || open || Modifier.isPrivate(method.getModifiers()));
            }
        }
    }

    private static void shape(Class<?> type) {
        CHECK.holds(type + " is static", type == WovenRoads.class || Modifier.isStatic(type.getModifiers()));
        int fields = 0;
        for (Field field : type.getDeclaredFields()) {
            boolean fixed = Modifier.isStatic(field.getModifiers());
            CHECK.holds(field + " is no state of the class", !fixed || Modifier.isFinal(field.getModifiers()));
            fields += fixed ? 0 : 1;
        }
        CHECK.holds(type + " has few fields", fields <= MOST_FIELDS);
        for (Method method : type.getDeclaredMethods()) {
            CHECK.holds(method + " has few parameters", method.getParameterCount() <= MOST_PARAMETERS);
        }
    }

    private static void source(String text) {
        String code = text.replaceAll("(?s)/\\*.*?\\*/", "").replaceAll("//[^\n]*", "");
        Matcher found = Pattern.compile(FORBIDDEN).matcher(code);
        while (found.find()) {
            CHECK.holds("'" + found.group() + "' may stand in the code", false);
        }
        int methods = 0;
        Matcher method = Pattern.compile(METHOD).matcher(code);
        while (method.find()) {
            methods++;
            long lines = method.group(3).lines().count();
            CHECK.holds(method.group(2) + " is short: " + lines + " lines", lines <= MOST_LINES);
        }
        CHECK.holds("the methods are seen: " + methods, methods > FACE.length);
    }
}
