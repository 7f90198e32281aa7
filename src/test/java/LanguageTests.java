import java.lang.reflect.Constructor;
import java.lang.reflect.Field;
import java.lang.reflect.Method;
import java.lang.reflect.Modifier;
import java.nio.charset.StandardCharsets;
import java.nio.file.Files;
import java.nio.file.Path;
import java.util.Arrays;
import java.util.HashSet;
import java.util.List;
import java.util.Set;
import java.util.TreeSet;
import java.util.regex.Matcher;
import java.util.regex.Pattern;

/** The rules of LANGUAGE.md that a look at the source and at the compiled classes can tell. */
public final class LanguageTests {
    private static final String FACE =
        "int write(int,long); int wipe(); int fault(); int lay(); int joined(int,int); int add(int,int); int clear(int);"
        + " int word(int,int); int said(int,int,int); int say(int,int); int alter(int,int); long soundSo();"
        + " int nearest(int); long rivals(); int far(int,int,int); int best(int,int,int); int learnt(int,int,int);"
        + " int slip(int,int,int); int noSlips(); int slips(int); int list(int,int); int head(int,int,int);"
        + " int alive(int,boolean); int same(int); int since(int,int); int lost(int); int from(int,int);"
        + " long odds(int,int,int,int); int keep(); int back(); int count(int)";

    private static int wrong = 0;

    public static void main(String[] args) throws Exception {
        face();
        classesInside();
        String source = Files.readString(Path.of("src/main/java/SaidWoven.java"), StandardCharsets.ISO_8859_1);
        words(bare(source));
        library(bare(source));
        lengths(source);
        System.out.println(wrong == 0 ? "the rules are kept" : wrong + " rules are broken");
        if (wrong != 0) {
            System.exit(1);
        }
    }

    private static void hold(String rule, boolean holds) {
        if (!holds) {
            wrong++;
            System.out.println("broken: " + rule);
        }
    }

    /** Rule 1. */
    private static void face() {
        Class<?> c = SaidWoven.class;
        hold("public and final", Modifier.isPublic(c.getModifiers()) && Modifier.isFinal(c.getModifiers()));
        Set<String> due = new TreeSet<>(Arrays.asList(FACE.split("; ")));
        Set<String> got = new TreeSet<>();
        Set<String> names = new HashSet<>();
        for (Method m : c.getDeclaredMethods()) {
            if (Modifier.isPublic(m.getModifiers())) {
                names.add(m.getName());
                StringBuilder told = new StringBuilder(m.getReturnType() + " " + m.getName() + "(");
                for (Class<?> p : m.getParameterTypes()) {
                    told.append(told.charAt(told.length() - 1) == '(' ? "" : ",").append(p);
                }
                got.add(told + ")");
            } else {
                hold("a method neither public nor private: " + m, Modifier.isPrivate(m.getModifiers()));
            }
        }
        hold("the methods of the face: " + got, got.equals(due));
        for (Class<?> inside : SaidWoven.class.getDeclaredClasses()) {
            for (Method m : inside.getDeclaredMethods()) {
                hold("no name of a public method: " + m, !names.contains(m.getName()));
            }
        }
        for (Method m : c.getDeclaredMethods()) {
            hold("no name of a public method: " + m, Modifier.isPublic(m.getModifiers()) || !names.contains(m.getName()));
        }
        Constructor<?>[] made = c.getDeclaredConstructors();
        hold("one public constructor", made.length == 1 && made[0].getParameterCount() == 0 && Modifier.isPublic(made[0].getModifiers()));
        List<String> constants = List.of("BAD", "NO", "FULL", "NONE");
        for (Field f : c.getDeclaredFields()) {
            int mod = f.getModifiers();
            hold("a field of the face or private: " + f,
                constants.contains(f.getName()) ? Modifier.isPublic(mod) && Modifier.isStatic(mod) : Modifier.isPrivate(mod));
        }
    }

    /** Rules 2, 5, 11. */
    private static void classesInside() {
        Class<?>[] inside = SaidWoven.class.getDeclaredClasses();
        hold("twelve classes at most", inside.length <= 11);
        for (Class<?> c : inside) {
            hold("static: " + c, Modifier.isStatic(c.getModifiers()) && !Modifier.isPublic(c.getModifiers()));
            hold("no class deeper inside: " + c, c.getDeclaredClasses().length == 0);
        }
        for (int i = -1; i < inside.length; i++) {
            Class<?> c = i < 0 ? SaidWoven.class : inside[i];
            int fields = 0;
            for (Field f : c.getDeclaredFields()) {
                boolean isStatic = Modifier.isStatic(f.getModifiers());
                fields += isStatic ? 0 : 1;
                hold("static fields are final: " + f, !isStatic || Modifier.isFinal(f.getModifiers()));
            }
            hold("twenty fields at most: " + c, fields <= 20);
            for (Method m : c.getDeclaredMethods()) {
                hold("seven parameters at most: " + m, m.getParameterCount() <= 7);
            }
        }
    }

    /** The source without comments and without texts. */
    private static String bare(String source) {
        return source.replaceAll("(?s)/\\*.*?\\*/", " ").replaceAll("//[^\n]*", " ")
            .replaceAll("\"[^\"\n]*\"", "\"\"").replaceAll("'[^']'", "0");
    }

    /** Rules 6, 12, 13 and the forms that rule 2 leaves out. */
    private static void words(String source) {
        String[] none = {"throw", "throws", "try", "catch", "finally", "synchronized", "assert", "import", "package",
            "volatile", "transient", "native", "strictfp", "var", "yield", "hashCode", "toString", "protected",
            "Object", "Thread", "Random", "double", "float"};
        for (String word : none) {
            hold("no " + word, !Pattern.compile("\\b" + word + "\\b").matcher(source).find());
        }
        hold("no lambda", !source.contains("->"));
        hold("no method reference", !source.contains("::"));
        hold("no static block", !Pattern.compile("static\\s*\\{").matcher(source).find());
        hold("no three dimensions", !source.contains("[][][]"));
        for (char sign : source.toCharArray()) {
            hold("signs of 1 to 127", sign >= 1 && sign <= 127);
        }
    }

    /** Rule 4: what is called on Math, Integer, Long, System, Arrays. */
    private static void library(String source) {
        Set<String> may = Set.of("Math.max", "Math.min", "Math.abs", "Integer.bitCount", "System.arraycopy");
        Matcher calls = Pattern.compile("\\b(Math|Integer|Long|System|Arrays|String|List|Character)\\s*\\.\\s*\\w+").matcher(source);
        while (calls.find()) {
            hold("library: " + calls.group(), may.contains(calls.group()));
        }
    }

    /** Rule 11: methods of some sixty lines; and lines that can be read. */
    private static void lengths(String source) {
        String[] lines = source.split("\n");
        for (int i = 0; i < lines.length; i++) {
            hold("a line of 120 signs at most: " + (i + 1), lines[i].length() <= 120);
            if (lines[i].matches("( {4}| {8})(public |private |static |final )*[\\w\\[\\]<>]+ \\w+\\(.*\\) \\{")) {
                String end = lines[i].replaceAll("\\S.*", "") + "}";
                int to = i;
                while (to < lines.length && !lines[to].equals(end)) {
                    to++;
                }
                hold("sixty lines at most: " + lines[i], to - i < 60);
            }
        }
    }
}
