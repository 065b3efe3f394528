import java.io.IOException;
import java.lang.reflect.Array;
import java.lang.reflect.Field;
import java.lang.reflect.Method;
import java.lang.reflect.Modifier;
import java.nio.file.Files;
import java.nio.file.Path;
import java.util.ArrayList;
import java.util.Collections;
import java.util.IdentityHashMap;
import java.util.List;
import java.util.Set;
import java.util.TreeSet;
import java.util.regex.Matcher;
import java.util.regex.Pattern;

/**
 * Looks at the program itself: the face that the document gives it, those rules
 * of ../shared/LANGUAGE.md that can be seen from the text or the class, and the
 * room that an object takes.
 */
public final class SourceRulesTest {
    private static final Path SOURCE = Path.of("src/main/java/SecondHelping.java");
    private static final Path DOCUMENT = Path.of("../shared/DOC.md");
    private static final String[] BANNED_WORDS = {"throw", "throws", "try", "catch", "synchronized", "assert",
        "volatile", "native", "import static", "hashCode", "Object", "Exception", "System\\.out", "Math\\.[a-z]+Exact"};

    /** What rule 4 leaves of the library, but for what stands in a text or a list. */
    private static final Pattern LIBRARY = Pattern.compile("System\\.arraycopy|Arrays\\.(fill|copyOf|copyOfRange)|List\\.of"
        + "|(Integer|Long|Math)\\.[a-z]\\w*");

    /** What rule 5 leaves of static fields, but for the constants of an enum. */
    private static final Set<Class<?>> CONSTANTS = Set.of(int.class, long.class, boolean.class, char.class, String.class,
        int[].class, long[].class, char[].class, byte[].class);

    /** What the room of one run leaves for a call, were each of its 512 calls a new object. */
    private static final int MOST_OBJECTS = 600_000 / 512;
    private static final int MOST_ELEMENTS = 7_300_000 / 512;

    private static int wrong = 0;

    private static void hold(boolean holds, String rule) {
        if (!holds) {
            wrong++;
            System.out.println("not kept: " + rule);
        }
    }

    /** The text without comments, and without what stands between quotes. */
    private static String bare(String text) {
        String code = text.replaceAll("(?s)/\\*.*?\\*/", "").replaceAll("//[^\n]*", "");
        return code.replaceAll("\"[^\"\n]*\"", "\"\"").replaceAll("'[^'\n]*'", "' '");
    }

    private static void lookAtWords(String text, String code) {
        hold(text.chars().allMatch(c -> c == '\n' || c >= 32 && c < 127), "signs 32 to 126 alone");
        String noCases = code.replaceAll("(?m)^\\s*(case [^:;{]*|default) ->", "");
        hold(!noCases.contains("->") && !code.contains("::"), "no lambda, no method reference");
        hold(!Pattern.compile("static\\s*\\{").matcher(code).find(), "no static initialiser");
        hold(!Pattern.compile("(?m)^package").matcher(code).find(), "no package line");
        hold(!Pattern.compile("\\b(equals|toString)\\([^)]*\\)\\s*\\{").matcher(code).find(), "no own equals or toString");
        for (String word : BANNED_WORDS) {
            hold(!Pattern.compile("\\b" + word + "\\b").matcher(code).find(), "no " + word);
        }
        Matcher imports = Pattern.compile("(?m)^import ([^;]*);").matcher(code);
        while (imports.find()) {
            hold(Set.of("java.util.Arrays", "java.util.ArrayList", "java.util.List", "java.util.Iterator").contains(imports.group(1)),
                    "no import of " + imports.group(1));
        }
    }

    private static void lookAtLibrary(String code) {
        String names = "System|Arrays|Integer|Long|Math|List|ArrayList|String|StringBuilder|Character|Boolean|Thread|java";
        Pattern call = Pattern.compile("(?<![\\w.])(?:" + names + ")\\.\\w+");
        Matcher calls = call.matcher(code.replaceAll("(?m)^import .*$", ""));
        while (calls.find()) {
            hold(LIBRARY.matcher(calls.group()).matches(), "no " + calls.group());
        }
    }

    private static void lookAtMethods(String code) {
        Pattern head = Pattern.compile("(?m)^( +)((?:public |private |static )*)[\\w\\[\\]]+ (\\w+)\\(([^)]*)\\) \\{$");
        Matcher methods = head.matcher(code);
        while (methods.find()) {
            String name = methods.group(3);
            int end = code.indexOf("\n" + methods.group(1) + "}", methods.end());
            long lines = code.substring(methods.start(), end).chars().filter(c -> c == '\n').count();
            hold(lines <= 60, name + " is too long: " + lines);
            hold(methods.group(4).split(",").length <= 7, name + " takes too many");
        }
    }

    private static Set<String> faceOfDocument() throws IOException {
        Set<String> face = new TreeSet<>();
        Matcher lines = Pattern.compile("(?m)^    public (int|long) (\\w+\\([^)]*\\));$").matcher(Files.readString(DOCUMENT));
        while (lines.find()) {
            face.add(lines.group(1) + " " + lines.group(2).replaceAll(" \\w+([,)])", "$1"));
        }
        return face;
    }

    private static String faceOf(Method method) {
        List<String> types = new ArrayList<>();
        for (Class<?> type : method.getParameterTypes()) {
            types.add(type.getName());
        }
        return method.getReturnType().getName() + " " + method.getName() + "(" + String.join(", ", types) + ")";
    }

    private static void lookAtFace(Set<String> publicNames) throws IOException {
        Set<String> face = new TreeSet<>();
        for (Method method : SecondHelping.class.getDeclaredMethods()) {
            if (Modifier.isPublic(method.getModifiers())) {
                face.add(faceOf(method));
                publicNames.add(method.getName());
            } else {
                hold(Modifier.isPrivate(method.getModifiers()), method.getName() + " is private");
            }
        }
        hold(face.equals(faceOfDocument()), "the document's face: " + face);
        hold(SecondHelping.class.getConstructors().length == 1, "one public constructor");
        hold(Modifier.isFinal(SecondHelping.class.getModifiers()), "a final class");
    }

    private static void lookAtClass(Class<?> type, Set<String> publicNames) {
        int fields = 0;
        for (Field field : type.getDeclaredFields()) {
            int modifiers = field.getModifiers();
            fields += Modifier.isStatic(modifiers) ? 0 : 1;
            hold(!Modifier.isStatic(modifiers) || Modifier.isFinal(modifiers), field.getName() + " is final");
            hold(!Modifier.isStatic(modifiers) || field.isEnumConstant() || type.isEnum()
                    || CONSTANTS.contains(field.getType()), field.getName() + " is a constant");
            hold(type != SecondHelping.class || Modifier.isPrivate(modifiers), field.getName() + " is private");
        }
        hold(fields <= 20, type.getName() + " has too many fields");
        for (Method method : type.getDeclaredMethods()) {
            boolean named = publicNames.contains(method.getName());
            hold(!named || Modifier.isPublic(method.getModifiers()), method.getName() + " bears a public name");
        }
    }

    /** Rule 12: what a call needs was made with the object, so "new" stands where a field is made. */
    private static void lookAtMaking(String code) {
        Pattern field = Pattern.compile("^ {4,8}(private )?final [\\w\\[\\]]+ \\w+ = new \\w+(\\[[^\\]]*\\]|\\([^)]*\\));$");
        for (String line : code.split("\n")) {
            hold(!Pattern.compile("\\bnew\\b").matcher(line).find() || field.matcher(line).matches(),
                    "made by a call: " + line.trim());
        }
    }

    /** All objects and arrays that hang on one, with their fields and elements. */
    private static int elementsOf(Object one, Set<Object> seen) throws IllegalAccessException {
        if (one == null || one instanceof Number || one instanceof Boolean || !seen.add(one)) {
            return 0;
        }
        int elements = 0;
        if (one.getClass().isArray()) {
            boolean numbers = one.getClass().getComponentType().isPrimitive();
            elements = Array.getLength(one);
            for (int i = 0; i < Array.getLength(one) && !numbers; i++) {
                elements += elementsOf(Array.get(one, i), seen);
            }
            return elements;
        }
        for (Field field : one.getClass().getDeclaredFields()) {
            if (!Modifier.isStatic(field.getModifiers())) {
                field.setAccessible(true);
                elements += 1 + elementsOf(field.get(one), seen);
            }
        }
        return elements;
    }

    private static void lookAtRoom() throws IllegalAccessException {
        Set<Object> seen = Collections.newSetFromMap(new IdentityHashMap<>());
        int elements = elementsOf(new SecondHelping(), seen);
        hold(elements > 0 && elements <= MOST_ELEMENTS, "an object has too many elements: " + elements);
        hold(seen.size() <= MOST_OBJECTS, "an object is made of too many: " + seen.size());
    }

    public static void main(String[] args) throws IOException, IllegalAccessException {
        String text = Files.readString(SOURCE);
        String code = bare(text);
        lookAtWords(text, code);
        lookAtLibrary(code);
        lookAtMethods(code);
        lookAtMaking(code);
        lookAtRoom();
        Set<String> publicNames = new TreeSet<>();
        lookAtFace(publicNames);
        lookAtClass(SecondHelping.class, publicNames);
        Class<?>[] inside = SecondHelping.class.getDeclaredClasses();
        hold(inside.length <= 12, "some twelve classes");
        for (Class<?> type : inside) {
            hold(Modifier.isStatic(type.getModifiers()), type.getName() + " is static");
            hold(!Modifier.isPublic(type.getModifiers()), type.getName() + " is not public");
            lookAtClass(type, publicNames);
        }
        System.out.println(wrong == 0 ? "the program keeps to what can be seen of its rules" : wrong + " rules are not kept");
        if (wrong != 0) {
            System.exit(1);
        }
    }
}
