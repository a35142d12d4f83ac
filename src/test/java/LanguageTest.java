import java.lang.reflect.Constructor;
import java.lang.reflect.Executable;
import java.lang.reflect.Field;
import java.lang.reflect.Method;
import java.lang.reflect.Modifier;
import java.nio.file.Files;
import java.nio.file.Path;
import java.util.ArrayList;
import java.util.HashSet;
import java.util.List;
import java.util.Set;
import java.util.regex.Pattern;

/** The rules of LANGUAGE.md that can be seen in the file or in its classes. */
public final class LanguageTest {
    private static final Check check = new Check();

    /** What rules 2 to 6 and 13 leave out, and the exceptions, of which the document names none. */
    private static final String[] RULED_OUT = {
        "\\bpackage\\b", "\\bimport\\b", "\\bthrow\\b", "\\bthrows\\b", "\\btry\\b", "\\bcatch\\b",
        "\\bfinally\\b", "\\bassert\\b", "\\bsynchronized\\b", "\\bprotected\\b", "\\bdouble\\b",
        "\\bfloat\\b", "\\bSystem\\b", "\\bThread\\b", "\\bObject\\b", "\\bvar\\b", "\\bjava\\.",
        "Exact\\b", "->", "::", "\\bhashCode\\b", "\\btoString\\b", "\\[\\]\\["};

    public static void main(String[] args) throws Exception {
        String source = Files.readString(Path.of("src/main/java/FretHands.java"));
        wordsThatAreRuledOut(withoutComments(source));
        lengthOfMethods(source);
        List<Class<?>> classes = new ArrayList<>();
        classes.add(FretHands.class);
        for (Class<?> inside : FretHands.class.getDeclaredClasses()) {
            classes.add(inside);
            classesInside(inside);
        }
        check.sentence("11: the file has at most some twelve classes");
        check.due("more than 12 classes", classes.size() > 12 ? classes.size() : 0, 0);
        for (Class<?> each : classes) {
            namesOfMethods(each);
            parameters(each);
            fields(each);
        }
        check.end("LanguageTest");
    }

    private static String withoutComments(String source) {
        return source.replaceAll("(?s)/\\*.*?\\*/", "").replaceAll("//[^\n]*", "");
    }

    private static void wordsThatAreRuledOut(String code) {
        check.sentence("2 to 6, 13: the part of Java that these rules leave");
        for (String word : RULED_OUT) {
            check.due(word + " is in the file", Pattern.compile(word).matcher(code).find() ? 1 : 0, 0);
        }
    }

    /** By the file's own layout: a method ends at the brace that stands under its first line. */
    private static void lengthOfMethods(String source) {
        check.sentence("11: Methods stay short (some sixty lines)");
        String[] lines = source.split("\n");
        for (int i = 0; i < lines.length; i++) {
            if (!lines[i].matches(" {4,8}[A-Za-z].*\\) \\{") || lines[i].matches(" *(if|for|while|switch)\\b.*")) {
                continue;
            }
            String indent = lines[i].substring(0, lines[i].length() - lines[i].stripLeading().length());
            int end = i;
            while (end < lines.length && !lines[end].equals(indent + "}")) {
                end++;
            }
            check.due(lines[i].trim() + " is too long", end - i + 1 > 60 ? end - i + 1 : 0, 0);
        }
    }

    private static void classesInside(Class<?> inside) {
        check.sentence("1: the classes inside are private or package-visible and static");
        int open = Modifier.PUBLIC | Modifier.PROTECTED;
        check.due(inside + " can be seen", inside.getModifiers() & open, 0);
        check.due(inside + " is static", Modifier.isStatic(inside.getModifiers()) ? 1 : 0, 1);
        check.due("classes inside " + inside, inside.getDeclaredClasses().length, 0);
    }

    private static void namesOfMethods(Class<?> each) {
        check.sentence("1: No private method bears the name of a public one");
        Set<String> face = new HashSet<>();
        for (Method method : FretHands.class.getDeclaredMethods()) {
            if (Modifier.isPublic(method.getModifiers())) {
                face.add(method.getName());
            }
        }
        for (Method method : each.getDeclaredMethods()) {
            if (!Modifier.isPublic(method.getModifiers())) {
                check.due(method + " bears such a name", face.contains(method.getName()) ? 1 : 0, 0);
            }
        }
    }

    private static void parameters(Class<?> each) {
        check.sentence("11: A method takes at most seven parameters");
        List<Executable> all = new ArrayList<>(List.of(each.getDeclaredMethods()));
        for (Constructor<?> made : each.getDeclaredConstructors()) {
            all.add(made);
        }
        for (Executable one : all) {
            check.due(one + " takes more", one.getParameterCount() > 7 ? 1 : 0, 0);
        }
    }

    private static void fields(Class<?> each) {
        int own = 0;
        for (Field field : each.getDeclaredFields()) {
            check.sentence("5: Static fields are final: constants of int, long, boolean, char or String");
            boolean constant = Modifier.isStatic(field.getModifiers());
            if (constant) {
                check.due(field + " is final", Modifier.isFinal(field.getModifiers()) ? 1 : 0, 1);
                check.due(field + " is an int", field.getType() == int.class ? 1 : 0, 1);
            } else {
                own++;
            }
        }
        check.sentence("11: a class has some twenty fields beside its constants");
        check.due(each + " has more", own > 20 ? own : 0, 0);
    }
}
