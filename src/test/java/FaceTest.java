import java.lang.reflect.Constructor;
import java.lang.reflect.Field;
import java.lang.reflect.Member;
import java.lang.reflect.Method;
import java.lang.reflect.Modifier;
import java.nio.file.Files;
import java.nio.file.Path;
import java.util.Arrays;
import java.util.Set;
import java.util.TreeSet;
import java.util.regex.Matcher;
import java.util.regex.Pattern;

/** The public face of the document, and rules of LANGUAGE.md that can be seen from the outside. */
public final class FaceTest {
    private static final String[] FACE = {
        "int tower(int,int,int,int)", "int ofPerson(int,int)", "int weight(int)", "int weigh(int,int)",
        "int storeys(int,int)", "int say(int,int)", "int hush(int)", "int landing(int)",
        "int days(int,int,int,int,int)", "int way(int,int)", "int kept(int,int)", "int roof(int)", "int safe(int)",
        "int reading(int,int)", "int back(int)", "int weights(int,int,int,int,int)", "int kinds(int,int,int,int,int)",
        "int knew(int,int,int,int,int)", "long odds(int,int,int)", "int sheet(int,int,int)", "int lose(int)",
        "int put(int,int,int)", "long cell(int,int,int)", "int copy(int,int,int,int,int)", "int tell(int)",
        "int greet(int)", "int as(int,int)", "int trace()", "int fault()", "int many(int)"};
    private static final Set<String> CONSTANTS =
            new TreeSet<>(Arrays.asList("UNKNOWN", "OUTSIDE", "STATE", "FULL", "NONE", "LOST"));
    private static final Checks checks = new Checks();

    public static void main(String[] args) throws Exception {
        constants();
        methods();
        fields();
        source(Files.readString(Path.of("src/main/java/TowerTell.java")));
        checks.end("FaceTest");
    }

    private static void constants() {
        checks.begin("constants");
        checks.due("UNKNOWN", TowerTell.UNKNOWN, -1);
        checks.due("OUTSIDE", TowerTell.OUTSIDE, -2);
        checks.due("STATE", TowerTell.STATE, -3);
        checks.due("FULL", TowerTell.FULL, -4);
        checks.due("NONE", TowerTell.NONE, -9);
        checks.due("LOST", TowerTell.LOST, Long.MIN_VALUE);
    }

    private static void methods() {
        checks.begin("methods");
        Set<String> open = new TreeSet<>();
        Set<String> openNames = new TreeSet<>();
        Set<String> hiddenNames = new TreeSet<>();
        for (Method m : TowerTell.class.getDeclaredMethods()) {
            if (isHidden(m)) {
                hiddenNames.add(m.getName());
            } else {
                open.add(signature(m));
                openNames.add(m.getName());
            }
        }
        hiddenNames.retainAll(openNames);
        truth("the face is the document's: " + open, open.equals(new TreeSet<>(Arrays.asList(FACE))));
        truth("no private method bears a public name: " + hiddenNames, hiddenNames.isEmpty());
        truth("the class is public and final", Modifier.isPublic(TowerTell.class.getModifiers())
                && Modifier.isFinal(TowerTell.class.getModifiers()));
        Constructor<?>[] made = TowerTell.class.getDeclaredConstructors();
        truth("one public constructor", made.length == 1 && Modifier.isPublic(made[0].getModifiers()));
    }

    private static void fields() {
        checks.begin("fields");
        for (Field f : TowerTell.class.getDeclaredFields()) {
            truth(f + " is a constant of the document or private", isHidden(f) || CONSTANTS.contains(f.getName()));
            truth(f + " is final if it is static", !Modifier.isStatic(f.getModifiers())
                    || Modifier.isFinal(f.getModifiers()));
        }
        for (Class<?> inside : TowerTell.class.getDeclaredClasses()) {
            truth(inside + " is static", Modifier.isStatic(inside.getModifiers()));
        }
    }

    private static void source(String text) {
        checks.begin("source");
        String plain = text.replaceAll("(?s)/\\*.*?\\*/", "").replaceAll("//[^\n]*", "");
        Matcher word = Pattern.compile("\\b(throw|throws|try|catch|synchronized|assert|package|import)\\b|->|::")
                .matcher(plain);
        truth("no word that the language leaves out", !word.find());
        truth("only characters 1 to 127", text.chars().allMatch(c -> c > 0 && c < 128));
    }

    private static boolean isHidden(Member m) {
        return Modifier.isPrivate(m.getModifiers());
    }

    private static String signature(Method m) {
        StringBuilder text = new StringBuilder(m.getReturnType() + " " + m.getName() + "(");
        for (Class<?> type : m.getParameterTypes()) {
            text.append(text.charAt(text.length() - 1) == '(' ? "" : ",").append(type);
        }
        return text.append(")").toString();
    }

    private static void truth(String what, boolean so) {
        checks.due(what, so ? 1 : 0, 1);
    }
}
