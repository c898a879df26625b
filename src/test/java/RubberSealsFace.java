import java.lang.reflect.Constructor;
import java.lang.reflect.Field;
import java.lang.reflect.Method;
import java.lang.reflect.Modifier;
import java.nio.file.Files;
import java.nio.file.Path;
import java.util.ArrayList;
import java.util.Arrays;
import java.util.List;
import java.util.TreeSet;
import java.util.regex.Matcher;
import java.util.regex.Pattern;

/** The public face, and those rules of LANGUAGE.md that can be read off the classes and the source. */
public final class RubberSealsFace {
    private static final String[] CONSTANTS = {"BAD -1", "FINDING -3", "FULL -2", "NONE -9", "SPENT -6", "STATE -4"};
    private static final String[] METHODS = {
        "int row 2", "int lay 3", "int tear 1", "int copy 5", "int mean 1", "int text 2", "int put 3", "int fault 1", "int stuff 2",
        "int about 2", "int push 2", "int seal 5", "int take 1", "int depth 2", "int stretch 2", "int told 2", "int mark 2", "int let 2",
        "int rest 0", "int press 1", "int opens 0", "int weakest 0", "int leak 0", "int through 1", "int age 1", "int swell 0",
        "int renew 1", "int blown 1", "int ends 3", "int sure 2", "int follows 3", "int strip 2", "int parting 1", "int batch 4",
        "int led 0", "int choose 3", "int sniff 2", "int asked 0", "long upper 0", "long lower 0", "int count 1", "int finding 0",
        "int findings 1", "long digest 0",
    };
    private static final String[] FORBIDDEN = {
        "throw", "throws", "try", "catch", "finally", "synchronized", "assert", "import", "package", "protected", "System\\.out", "Object",
        "Exception", "MAX_VALUE", "MIN_VALUE", "\\w+Exact", "double", "float", "->", "::", "hashCode", "toString", "record", "volatile",
        "native", "yield", "var",
    };
    private static int wrong = 0;

    public static void main(String[] args) throws Exception {
        face();
        namesOfTheirOwn();
        sizes();
        String source = withoutComments(Files.readString(Path.of(args.length > 0 ? args[0] : "src/main/java/RubberSeals.java")));
        words(source);
        lengths(source);
        System.out.println(wrong == 0 ? "the face and the source keep to the rules" : wrong + " rules are broken");
        if (wrong != 0) System.exit(1);
    }

    private static void due(String what, boolean holds) {
        if (!holds) {
            wrong++;
            System.out.println("rule broken: " + what);
        }
    }

    private static void face() throws IllegalAccessException {
        int modifiers = RubberSeals.class.getModifiers();
        due("public and final", Modifier.isPublic(modifiers) && Modifier.isFinal(modifiers));
        TreeSet<String> constants = new TreeSet<>();
        for (Field f : RubberSeals.class.getDeclaredFields()) {
            if (Modifier.isPrivate(f.getModifiers())) continue;
            due("only public constants: " + f, Modifier.isPublic(f.getModifiers()) && Modifier.isFinal(f.getModifiers()) && f.getType() == int.class);
            constants.add(f.getName() + " " + f.getInt(null));
        }
        due("the constants " + constants, constants.equals(new TreeSet<>(Arrays.asList(CONSTANTS))));
        TreeSet<String> methods = new TreeSet<>();
        for (Method m : RubberSeals.class.getDeclaredMethods()) {
            if (Modifier.isPrivate(m.getModifiers()) || m.isSynthetic()) continue;
            due("public, of an object: " + m, Modifier.isPublic(m.getModifiers()) && !Modifier.isStatic(m.getModifiers()));
            for (Class<?> type : m.getParameterTypes()) due("ints: " + m, type == int.class);
            methods.add(m.getReturnType() + " " + m.getName() + " " + m.getParameterCount());
        }
        due("the methods " + methods, methods.equals(new TreeSet<>(Arrays.asList(METHODS))));
        Constructor<?>[] made = RubberSeals.class.getDeclaredConstructors();
        due("one public constructor", made.length == 1 && Modifier.isPublic(made[0].getModifiers()) && made[0].getParameterCount() == 0);
    }

    private static List<Class<?>> classes() {
        List<Class<?>> all = new ArrayList<>();
        all.add(RubberSeals.class);
        all.addAll(Arrays.asList(RubberSeals.class.getDeclaredClasses()));
        return all;
    }

    private static void namesOfTheirOwn() {
        TreeSet<String> taken = new TreeSet<>();
        for (String method : METHODS) taken.add(method.split(" ")[1]);
        for (Class<?> c : classes()) {
            if (c != RubberSeals.class) due("static: " + c, Modifier.isStatic(c.getModifiers()) && !Modifier.isPublic(c.getModifiers()));
            for (Method m : c.getDeclaredMethods()) {
                if (!Modifier.isPublic(m.getModifiers())) due("a public one's name: " + m, !taken.contains(m.getName()));
            }
        }
    }

    private static void sizes() {
        due("some twelve classes", classes().size() <= 12);
        for (Class<?> c : classes()) {
            int fields = 0;
            for (Field f : c.getDeclaredFields()) {
                if (!Modifier.isStatic(f.getModifiers())) fields++;
                else due("static fields are final: " + f, Modifier.isFinal(f.getModifiers()));
            }
            due("some twenty fields: " + c, fields <= 20);
            for (Method m : c.getDeclaredMethods()) due("seven parameters: " + m, m.getParameterCount() <= 7);
        }
    }

    private static String withoutComments(String source) {
        return source.replaceAll("(?s)/\\*.*?\\*/", "").replaceAll("//[^\n]*", "");
    }

    private static void words(String source) {
        for (String word : FORBIDDEN) {
            boolean isWord = Character.isLetter(word.charAt(0)) || word.charAt(0) == '\\';
            Matcher m = Pattern.compile(isWord ? "\\b" + word + "\\b" : word).matcher(source);
            due("the word " + word, !m.find());
        }
        for (int i = 0; i < source.length(); i++) due("a sign beyond 127", source.charAt(i) < 128);
        Matcher library = Pattern.compile("\\b(Math|Integer|Long|System|Arrays|String|StringBuilder)\\.(\\w+)").matcher(source);
        while (library.find()) {
            due("the library: " + library.group(), List.of("Math.max", "Math.min", "Math.abs", "Integer.bitCount", "System.arraycopy").contains(library.group()));
        }
        Matcher loops = Pattern.compile("\\b(while|do)\\b").matcher(source);
        due("every loop counts", !loops.find());
    }

    /** Objects are made by fields and constructors alone, so that no run of calls can fill the room. */
    private static void lengths(String source) {
        String[] lines = source.split("\n");
        int start = -1;
        String head = "";
        for (int i = 0; i < lines.length; i++) {
            String line = lines[i];
            String indent = line.substring(0, line.length() - line.stripLeading().length());
            boolean member = indent.length() == 4 || indent.length() == 8;
            if (start < 0 && member && line.endsWith(") {") && line.strip().matches("(public |private |static )*[\\w\\[\\]]+( \\w+)?\\(.*\\) \\{")) {
                start = i;
                head = line;
            }
            if (start < 0) continue;
            boolean constructor = head.strip().matches("(public )?(RubberSeals|Row|Stuff|Reader|Seal|Trial)\\(.*");
            if (!constructor) due("nothing is made in " + head.strip(), !line.matches(".*\\bnew\\b.*"));
            if (line.equals(head.substring(0, head.length() - head.stripLeading().length()) + "}")) {
                due("sixty lines: " + head.strip(), i - start < 60);
                start = -1;
            }
        }
        due("the methods were read to the end", start < 0);
    }
}
