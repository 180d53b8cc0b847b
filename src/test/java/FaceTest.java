import java.io.IOException;
import java.lang.reflect.Field;
import java.lang.reflect.Method;
import java.lang.reflect.Modifier;
import java.nio.file.Files;
import java.nio.file.Path;
import java.util.ArrayList;
import java.util.Arrays;
import java.util.List;
import java.util.Set;
import java.util.TreeSet;

/** The public face, and what of ../shared/LANGUAGE.md can be told from the class and from its text. */
public final class FaceTest {
    private static final Check CHECK = new Check("FaceTest");
    private static final String[] METHODS = {
        "int set(int,int)", "int seed(int)", "int cast()", "int move(int)", "int skip()",
        "int play(int)", "int read()", "int lay(int,int)", "int piece(int,int)", "int field(int,int)",
        "int why(int,int)",
        "int count(int)", "int best()", "int needs(int,int)", "int nextCast(int)", "int untilOver()", "int put(long)",
        "int wipe()", "int fault()", "int undo()", "int save(int)", "int restore(int)"};

    public static void main(String[] args) throws IOException {
        constants();
        face();
        for (Class<?> inside : BridgedPachisi.class.getDeclaredClasses()) {
            inside(inside);
        }
        text(Files.readString(Path.of("src/main/java/BridgedPachisi.java")));
        CHECK.end();
    }

    private static void constants() {
        CHECK.due("NO_SUCH", BridgedPachisi.NO_SUCH, -1);
        CHECK.due("BAD_VALUE", BridgedPachisi.BAD_VALUE, -2);
        CHECK.due("BAD_TEXT", BridgedPachisi.BAD_TEXT, -3);
        CHECK.due("TOO_MANY", BridgedPachisi.TOO_MANY, -4);
        CHECK.due("NOT_POSSIBLE", BridgedPachisi.NOT_POSSIBLE, -5);
        CHECK.due("NONE", BridgedPachisi.NONE, -6);
        CHECK.due("ENTERS", BridgedPachisi.ENTERS, 0);
        CHECK.due("MENDS", BridgedPachisi.MENDS, 1);
        CHECK.due("AGAINS", BridgedPachisi.AGAINS, 2);
    }

    private static void face() {
        Class<?> type = BridgedPachisi.class;
        CHECK.holds("public", Modifier.isPublic(type.getModifiers()));
        CHECK.holds("final", Modifier.isFinal(type.getModifiers()));
        CHECK.due("constructors", type.getDeclaredConstructors().length, 1);
        CHECK.due("public constructors without parameters", type.getConstructors()[0].getParameterCount(), 0);
        Set<String> open = new TreeSet<>();
        for (Method method : type.getDeclaredMethods()) {
            if (!Modifier.isPrivate(method.getModifiers())) {
                String parameters = method.toString().replaceAll("^[^(]*", "");
                open.add(method.getReturnType() + " " + method.getName() + parameters);
            }
        }
        Set<String> due = new TreeSet<>(Arrays.asList(METHODS));
        CHECK.holds("the methods are those of the document: " + open, open.equals(due));
        List<String> fields = new ArrayList<>();
        for (Field field : type.getDeclaredFields()) {
            if (!Modifier.isPrivate(field.getModifiers())) {
                fields.add(field.getName());
            }
        }
        CHECK.due("constants", fields.size(), 9);
        CHECK.holds("at most twelve classes", type.getDeclaredClasses().length < 12);
        noNameTwice(type);
        fields(type);
    }

    private static void inside(Class<?> type) {
        CHECK.holds(type + " is static", Modifier.isStatic(type.getModifiers()));
        CHECK.holds(type + " is not public", !Modifier.isPublic(type.getModifiers()));
        CHECK.holds(type + " is not protected", !Modifier.isProtected(type.getModifiers()));
        noNameTwice(type);
        fields(type);
    }

    private static void noNameTwice(Class<?> type) {
        for (Method method : type.getDeclaredMethods()) {
            for (String open : METHODS) {
                CHECK.holds(method + " bears the name of a public one",
                        Modifier.isPublic(method.getModifiers()) || !open.startsWith("int " + method.getName() + "("));
            }
            CHECK.holds(method + " has at most seven parameters", method.getParameterCount() <= 7);
        }
    }

    private static void fields(Class<?> type) {
        int own = 0;
        for (Field field : type.getDeclaredFields()) {
            if (Modifier.isStatic(field.getModifiers())) {
                CHECK.holds(field + " is final", Modifier.isFinal(field.getModifiers()));
            } else {
                own++;
            }
        }
        CHECK.holds(type + " has at most twenty fields", own <= 20);
    }

    private static void text(String source) {
        String code = source.replaceAll("(?s)/\\*.*?\\*/", " ").replaceAll("//[^\n]*", " ").replaceAll("'.'", "0");
        String[] words = {"throw", "throws", "try", "catch", "finally", "synchronized", "assert", "package", "equals",
            "hashCode", "toString", "System.out", "System.exit", "Object", "Exception", "Error"};
        for (String word : words) {
            String alone = "(?<![A-Za-z_.])" + word.replace(".", "\\.") + "(?![A-Za-z_])";
            CHECK.holds("no word " + word, !code.matches("(?s).*" + alone + ".*"));
        }
        for (String sign : new String[] {"->", "::"}) {
            CHECK.holds("no sign " + sign, !code.contains(sign));
        }
        CHECK.holds("signs 1 to 127", source.chars().allMatch(sign -> sign > 0 && sign < 128));
        int longest = 0;
        for (String body : code.split("\n    (    )?}\n")) {
            longest = Math.max(longest, body.split("\n").length);
        }
        CHECK.holds("methods stay short", longest <= 75);
    }
}
