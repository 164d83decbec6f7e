import java.io.IOException;
import java.lang.reflect.Constructor;
import java.lang.reflect.Field;
import java.lang.reflect.Method;
import java.lang.reflect.Modifier;
import java.nio.file.Files;
import java.nio.file.Path;
import java.util.ArrayList;
import java.util.Arrays;
import java.util.List;
import java.util.Set;
import java.util.TreeSet;
import java.util.regex.Matcher;
import java.util.regex.Pattern;

/** The rules of LANGUAGE.md that can be seen from the source and the compiled class. The argument: the project's place. */
public final class LanguageTests {
    private static final String[] FACE = {
        "row(int,int,int)int", "set(int,int,long)int", "copy(int,int,int,int,int)int", "element(int,int)long",
        "show(int,int)int", "holds(int)int", "says(int,int)int", "strip(int,int,int,int)int", "stripOf(int,int)int",
        "turn(int,int)int", "read(int)int", "fault()int", "creases(int)long", "crease(int,long)int", "way(int,long)int",
        "place(int,long,int)long", "passed(int,int,int,int)int", "most(int,int)int", "twice(int,int)int",
        "cover(int,int)int", "when(int,int,int,int)int", "near(int,int,int,int,int,int)int", "four(int,int)int",
        "words(int,int,int)int", "wrong(int,int)int", "mend(int,int)int", "judge(int,int,int)int",
        "ends(int,int,int,int)int", "piece(int,int,int,int)int", "can(int,int)int", "orders(int)int",
        "order(int,int,int)int", "page(int,int)int", "drop()int", "act(int,int,int)int", "trace(int)int", "image()int",
        "restore()int", "status(int)int"};
    private static final String[] FORBIDDEN = {
        "\\bthrow", "\\btry\\b", "\\bcatch\\b", "\\bsynchronized\\b", "\\bassert\\b", "->", "::", "\\binstanceof\\b.*&&.*\\?",
        "Exact\\b", "\"\\s*\\+", "\\+\\s*\"", "@Override", "\\bThread\\b", "\\bRandom\\b", "\\bSystem\\.(?!arraycopy)",
        "\\bMath\\.random", "\\bstatic\\s*\\{", "\\bpackage\\b", "Integer\\.[A-Z]", "Long\\.[A-Z]", "\\bfinalize\\b",
        "\\bhashCode\\b", "\\btoString\\b", "\\bequals\\b", "\\bdouble\\b", "\\bfloat\\b"};
    private static int wrong = 0;

    public static void main(String[] args) throws IOException {
        face();
        classes();
        source(Path.of(args.length > 0 ? args[0] : "."));
        System.out.println(wrong == 0 ? "all rules hold" : wrong + " rules are broken");
        if (wrong != 0) {
            System.exit(1);
        }
    }

    private static void broken(boolean is, String what) {
        if (is) {
            wrong++;
            System.out.println(what);
        }
    }

    private static void face() {
        Set<String> due = new TreeSet<>(Arrays.asList(FACE));
        Set<String> seen = new TreeSet<>();
        Set<String> names = new TreeSet<>();
        for (Method method : FoldedInHalf.class.getDeclaredMethods()) {
            if (Modifier.isPublic(method.getModifiers())) {
                seen.add(signature(method));
                names.add(method.getName());
            }
        }
        broken(!due.equals(seen), "the face is " + seen);
        for (Class<?> type : all()) {
            for (Method method : type.getDeclaredMethods()) {
                boolean ofFace = Modifier.isPublic(method.getModifiers());
                broken(!ofFace && names.contains(method.getName()), type + " has a method named " + method.getName());
                broken(method.getParameterCount() > 7, method + " takes too much");
            }
        }
        for (Field field : FoldedInHalf.class.getDeclaredFields()) {
            boolean none = field.getName().equals("NONE");
            broken(none != Modifier.isPublic(field.getModifiers()), "field " + field);
            broken(!none && !Modifier.isPrivate(field.getModifiers()), "field " + field);
        }
        for (Constructor<?> constructor : FoldedInHalf.class.getDeclaredConstructors()) {
            broken(constructor.getParameterCount() != 0 || !Modifier.isPublic(constructor.getModifiers()), "" + constructor);
        }
        broken(!Modifier.isFinal(FoldedInHalf.class.getModifiers()), "the class is not final");
    }

    private static String signature(Method method) {
        List<String> types = new ArrayList<>();
        for (Class<?> type : method.getParameterTypes()) {
            types.add(type.getName());
        }
        return method.getName() + "(" + String.join(",", types) + ")" + method.getReturnType().getName();
    }

    private static List<Class<?>> all() {
        List<Class<?>> all = new ArrayList<>();
        all.add(FoldedInHalf.class);
        all.addAll(Arrays.asList(FoldedInHalf.class.getDeclaredClasses()));
        return all;
    }

    private static void classes() {
        broken(all().size() > 12, "too many classes: " + all().size());
        for (Class<?> type : all()) {
            int fields = 0;
            for (Field field : type.getDeclaredFields()) {
                boolean isStatic = Modifier.isStatic(field.getModifiers());
                fields += isStatic ? 0 : 1;
                broken(isStatic && !Modifier.isFinal(field.getModifiers()), field + " is static and changes");
            }
            broken(fields > 20, type + " has " + fields + " fields");
            broken(type != FoldedInHalf.class && !Modifier.isStatic(type.getModifiers()), type + " is not static");
        }
    }

    private static void source(Path root) throws IOException {
        List<String> lines = Files.readAllLines(root.resolve("src/main/java/FoldedInHalf.java"));
        int begun = -1;
        String end = "";
        for (int i = 0; i < lines.size(); i++) {
            String line = lines.get(i);
            broken(line.length() > 120 || !line.chars().allMatch(c -> c >= 32 && c < 127), "line " + (i + 1) + ": signs");
            String code = line.replaceAll("//.*|/?\\*\\*?[ /].*", "");
            for (String word : FORBIDDEN) {
                broken(Pattern.compile(word).matcher(code).find(), "line " + (i + 1) + ": " + word);
            }
            broken(code.startsWith("import") && !code.equals("import java.util.Arrays;"), "line " + (i + 1) + ": " + code);
            Matcher method = Pattern.compile("^( +)[^=;]*\\(.*\\) \\{$").matcher(code);
            if (begun < 0 && method.matches()) {
                begun = i;
                end = method.group(1) + "}";
            } else if (begun >= 0 && line.equals(end)) {
                broken(i - begun + 1 > 60, "line " + (begun + 1) + ": a method of " + (i - begun + 1) + " lines");
                begun = -1;
            }
        }
    }
}
