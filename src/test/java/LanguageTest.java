import java.io.IOException;
import java.lang.reflect.Constructor;
import java.lang.reflect.Field;
import java.lang.reflect.Method;
import java.lang.reflect.Modifier;
import java.nio.file.Files;
import java.nio.file.Path;
import java.util.ArrayList;
import java.util.List;
import java.util.Set;
import java.util.TreeSet;
import java.util.regex.Matcher;
import java.util.regex.Pattern;

/** What can be seen of the rules of LANGUAGE.md from the file and the compiled classes. */
public final class LanguageTest {
    private static final String FILE = "src/main/java/DikeWatch.java";
    private static final Set<String> FACE = Set.of("int write(long,int)", "int erase()", "int fault()", "int dike()",
        "int tide(int)", "int seep(int,int)", "int child(int,int)", "int as(int,int)", "int go(int)", "int fill(int)",
        "int keep(int)", "int back(int)", "int later(int,int,int)", "int breaks(int)", "int missed(int)",
        "int watch(int)", "int order(int,int,int)", "long storms(int,int,int,int)", "int guard(int,int)",
        "int seen(int,int,int)", "int paid(int,int)", "int forget()", "int where()", "int next(int)", "int count(int)");
    private static int wrong = 0;

    private static void due(boolean holds, String what) {
        if (!holds) {
            wrong++;
            System.out.println("not kept: " + what);
        }
    }

    public static void main(String[] args) throws IOException {
        String source = Files.readString(Path.of(FILE));
        String code = source.replaceAll("(?s)/\\*.*?\\*/", "").replaceAll("//[^\n]*", "").replaceAll("\"[^\"]*\"", "\"\"");
        face();
        List<Class<?>> classes = new ArrayList<>(List.of(DikeWatch.class.getDeclaredClasses()));
        classes.forEach(c -> due(Modifier.isStatic(c.getModifiers()), "rule 1: static " + c));
        classes.add(DikeWatch.class);
        due(classes.size() <= 12, "rule 11: twelve classes");
        classes.forEach(LanguageTest::members);
        words(code);
        rooms(code);
        lengths(code);
        System.out.println(wrong == 0 ? "the rules are kept" : wrong + " rules are not kept");
        if (wrong != 0) {
            System.exit(1);
        }
    }

    private static void face() {
        due(DikeWatch.class.getModifiers() == (Modifier.PUBLIC | Modifier.FINAL), "rule 1: public and final");
        Set<String> shown = new TreeSet<>();
        Set<String> names = new TreeSet<>();
        for (Method m : DikeWatch.class.getDeclaredMethods()) {
            if (Modifier.isPrivate(m.getModifiers())) {
                names.add(m.getName());
            } else {
                shown.add(told(m));
                due(m.getModifiers() == Modifier.PUBLIC, "rule 1: " + m);
            }
        }
        due(shown.equals(FACE), "rule 1: the face, not " + shown);
        for (Class<?> c : DikeWatch.class.getDeclaredClasses()) {
            for (Method m : c.getDeclaredMethods()) {
                names.add(m.getName());
            }
        }
        for (String of : FACE) {
            due(!names.contains(of.replaceAll("^.* |\\(.*$", "")), "rule 1: a private method bears the name of " + of);
        }
        Constructor<?>[] made = DikeWatch.class.getDeclaredConstructors();
        due(made.length == 1 && made[0].getModifiers() == Modifier.PUBLIC && made[0].getParameterCount() == 0, "rule 1: one constructor");
        Set<String> constants = new TreeSet<>();
        for (Field f : DikeWatch.class.getDeclaredFields()) {
            if (!Modifier.isPrivate(f.getModifiers())) {
                constants.add(f.getName());
            }
        }
        due(constants.equals(Set.of("NONE", "UNKNOWN", "OUTSIDE", "NOT", "FULL")), "rule 1: the constants, not " + constants);
    }

    private static String told(Method m) {
        List<String> types = new ArrayList<>();
        for (Class<?> type : m.getParameterTypes()) {
            types.add(type.getName());
        }
        return m.getReturnType().getName() + " " + m.getName() + "(" + String.join(",", types) + ")";
    }

    private static void members(Class<?> c) {
        int fields = 0;
        for (Field f : c.getDeclaredFields()) {
            boolean isStatic = Modifier.isStatic(f.getModifiers());
            fields += isStatic ? 0 : 1;
            due(!isStatic || Modifier.isFinal(f.getModifiers()) && f.getType().isPrimitive(), "rule 5: " + f);
        }
        due(fields <= 20, "rule 11: fields of " + c);
        for (Method m : c.getDeclaredMethods()) {
            due(m.getParameterCount() <= 7, "rule 11: parameters of " + m);
            due(!m.isSynthetic(), "rule 2: " + m);
        }
    }

    private static void words(String code) {
        for (String word : new String[] {"throw", "throws", "try", "catch", "finally", "synchronized", "assert", "package",
            "instanceof", "native", "volatile", "var", "double", "float", "yield"}) {
            due(!Pattern.compile("\\b" + word + "\\b").matcher(code).find(), "rule 6: " + word);
        }
        due(!code.contains("->") && !code.contains("::") && !code.contains("@"), "rule 2: lambda, method reference");
        due(!Pattern.compile("\\bstatic\\s*\\{").matcher(code).find(), "rule 5: static block");
        due(!Pattern.compile("\\bfor \\((?!int )").matcher(code).find(), "rule 9: a counter that other lines could change");
        Matcher imports = Pattern.compile("import ([^;]*);").matcher(code);
        while (imports.find()) {
            due(imports.group(1).equals("java.util.Arrays"), "rule 4: " + imports.group());
        }
        Matcher library = Pattern.compile("\\b(Arrays|System|Math|Integer|Long|String)\\.(\\w+)").matcher(code);
        Set<String> fine = Set.of("Arrays.fill", "System.arraycopy", "Math.abs", "Math.max", "Math.min", "Math.floorMod",
            "Integer.bitCount", "Integer.compare");
        while (library.find()) {
            due(fine.contains(library.group()), "rule 4: " + library.group());
        }
        due(code.chars().allMatch(sign -> sign < 128), "rule 4: signs");
    }

    /** Rows are made once, with the object: no call makes anything. */
    private static void rooms(String code) {
        int end = code.indexOf("public int write");
        String calls = code.substring(end).replaceAll("\\bfinal \\w+\\[\\] \\w+ = new \\w+\\[\\w+( \\+ 1)?\\];", "");
        due(end > 0 && !Pattern.compile("\\bnew\\b").matcher(calls).find(), "rule 12: new in a call");
    }

    private static void lengths(String code) {
        int length = 0;
        boolean isInside = false;
        for (String line : code.split("\n")) {
            if (line.matches("    (    )?[^ ].*\\) \\{")) {
                isInside = true;
                length = 0;
            }
            length++;
            if (isInside && line.matches("    (    )?\\}")) {
                due(length <= 60, "rule 11: a method of " + length + " lines");
                isInside = false;
            }
        }
    }
}
