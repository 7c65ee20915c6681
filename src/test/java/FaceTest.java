import java.io.IOException;
import java.lang.reflect.Constructor;
import java.lang.reflect.Field;
import java.lang.reflect.Method;
import java.lang.reflect.Modifier;
import java.nio.file.Files;
import java.nio.file.Path;
import java.util.Set;
import java.util.TreeSet;
import java.util.regex.Matcher;
import java.util.regex.Pattern;

/** The public face as the document prints it, and some of LANGUAGE.md's rules for the source. */
public final class FaceTest {
    private static final String[] METHODS = {
        "setRow/3", "come/5", "leave/1", "move/3", "turn/2", "lift/1", "lower/1", "setLimit/1", "setRule/2", "frame/0",
        "undo/0", "append/1", "clearText/0", "run/0", "failure/1", "count/1", "puppet/2", "line/2", "shown/2", "dot/2",
        "clash/1", "hiddenIn/2", "allShownIn/0", "bestStep/1", "worstLine/0"};
    private static final String[] FORBIDDEN = {"throw", "throws", "try", "catch", "finally", "synchronized", "assert",
        "import", "package", "protected", "native", "strictfp", "volatile", "transient", "equals", "hashCode", "System",
        "Thread", "null"};
    private static final Check check = new Check();

    public static void main(String[] args) throws IOException {
        constants();
        members();
        source();
        check.end();
    }

    private static void constants() {
        check.due("INVALID_ARGUMENT", PuppetTurns.INVALID_ARGUMENT, -101);
        check.due("ILLEGAL_STATE", PuppetTurns.ILLEGAL_STATE, -102);
        check.due("CAPACITY_EXCEEDED", PuppetTurns.CAPACITY_EXCEEDED, -103);
        check.due("NONE", PuppetTurns.NONE, -109);
    }

    private static void members() {
        Set<String> due = new TreeSet<>();
        Set<String> names = new TreeSet<>();
        for (String method : METHODS) {
            due.add(method);
            names.add(method.substring(0, method.indexOf('/')));
        }
        Set<String> found = new TreeSet<>();
        for (Method method : PuppetTurns.class.getDeclaredMethods()) {
            if (Modifier.isPrivate(method.getModifiers())) {
                check.due("private " + method.getName() + " bears a public name",
                    names.contains(method.getName()) ? 1 : 0, 0);
                continue;
            }
            found.add(method.getName() + "/" + method.getParameterCount());
            check.due(method + " is public and answers an int", Modifier.isPublic(method.getModifiers())
                && !Modifier.isStatic(method.getModifiers()) && method.getReturnType() == int.class ? 1 : 0, 1);
        }
        check.due("methods are " + found, found.equals(due) ? 1 : 0, 1);
        int shownFields = 0;
        for (Field field : PuppetTurns.class.getDeclaredFields()) {
            shownFields += Modifier.isPrivate(field.getModifiers()) ? 0 : 1;
        }
        check.due("fields that are not private", shownFields, 4);
        Constructor<?>[] constructors = PuppetTurns.class.getDeclaredConstructors();
        check.due("constructors", constructors.length, 1);
        check.due("a public constructor", Modifier.isPublic(constructors[0].getModifiers()) ? 1 : 0, 1);
        check.due("a final class", Modifier.isFinal(PuppetTurns.class.getModifiers()) ? 1 : 0, 1);
        Class<?>[] inside = PuppetTurns.class.getDeclaredClasses();
        check.due("at most twelve classes", inside.length < 12 ? 1 : 0, 1);
        for (Class<?> one : inside) {
            int modifiers = one.getModifiers();
            check.due(one + " is static and not public",
                Modifier.isStatic(modifiers) && !Modifier.isPublic(modifiers) && !Modifier.isProtected(modifiers) ? 1 : 0, 1);
        }
    }

    private static void source() throws IOException {
        String source = Files.readString(Path.of("src/main/java/PuppetTurns.java"));
        for (int i = 0; i < source.length(); i++) {
            if (source.charAt(i) > 127) {
                check.due("character " + i + " of the source", source.charAt(i), 0);
            }
        }
        String code = source.replaceAll("(?s)/\\*.*?\\*/", "").replaceAll("//[^\n]*", "");
        for (String word : FORBIDDEN) {
            Matcher matcher = Pattern.compile("\\b" + word + "\\b").matcher(code);
            int due = word.equals("System") ? 1 : word.equals("null") ? 3 : 0;
            int found = 0;
            while (matcher.find()) {
                found++;
            }
            check.due("how often the source says " + word, found, due);
        }
        check.due("no lambda", code.contains("->") ? 1 : 0, 0);
        check.due("no method reference", code.contains("::") ? 1 : 0, 0);
    }
}
