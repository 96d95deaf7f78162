import java.lang.reflect.Constructor;
import java.lang.reflect.Field;
import java.lang.reflect.Method;
import java.lang.reflect.Modifier;
import java.nio.file.Files;
import java.nio.file.Path;
import java.util.ArrayList;
import java.util.Arrays;
import java.util.HashSet;
import java.util.List;
import java.util.Set;
import java.util.TreeSet;
import java.util.regex.Matcher;
import java.util.regex.Pattern;

/** The public face of the document, and what LANGUAGE.md leaves of Java, as far as it can be looked up. */
public final class FaceTest {
    private static final String[] FACE = {
        "int row(int,int)", "int lay(int,int,int)", "int tear(int)", "int copy(int,int,int,int,int)",
        "int mean(int)", "int text(int,int)", "int put(int,int,int)", "int later(int)",
        "int place(int,int,int,int)", "int mark(int,int,int,int,int)", "int marks(int,int,int)",
        "int help(int,int,int)", "int paper(int,int)", "int cut(int,int)", "int strike(int,int)",
        "int told(int,int)", "int tells(int,int)", "int about(int,int)", "int fault(int,boolean)",
        "int laws(int,int)", "int number(int,int)", "int gives(int,int)", "int home(int,int)",
        "int span(int,int)", "int sure(int,int,int)", "int turns(int,int)", "int pairs(int)", "int learn(int)",
        "int just(int)", "int list(int)", "int listed(int,int)", "int gains(int,int)", "int far(int)",
        "int fall(int,int)", "int crowd(int,int,int,int)", "int next()", "int asked()", "long upper()",
        "long lower()", "int count(int)", "int finding()", "int findings(int)", "long digest()"};
    private static final Path DOCUMENT = Path.of("../shared/DOC.md");
    /** What rule 4 lists, as far as the source uses it. */
    private static final Set<String> LIBRARY = Set.of("Arrays.fill", "Arrays.copyOf", "Arrays.copyOfRange",
        "System.arraycopy", "Math.abs", "Math.max", "Math.min", "Math.floorDiv", "Math.floorMod", "Integer.bitCount",
        "Integer.compare", "Integer.max", "Integer.min", "Long.compare", "Long.max", "Long.min");
    private static final Path SOURCE = Path.of("src/main/java/ThinAir.java");

    private static int wrong = 0;

    public static void main(String[] args) throws Exception {
        constants();
        document();
        face();
        classes();
        fields();
        words();
        longMethods();
        if (wrong != 0) {
            System.exit(1);
        }
        System.out.println("the face and the language are as told");
    }

    private static void hold(boolean fits, String what) {
        if (!fits) {
            wrong++;
            System.out.println(what);
        }
    }

    private static void constants() {
        hold(ThinAir.BAD == -1, "BAD");
        hold(ThinAir.FULL == -2, "FULL");
        hold(ThinAir.FINDING == -3, "FINDING");
        hold(ThinAir.STATE == -4, "STATE");
        hold(ThinAir.NONE == -9999, "NONE");
    }

    /** What is held here as the face is that of the document. */
    private static void document() throws Exception {
        if (!Files.exists(DOCUMENT)) {
            System.out.println("the document is not at " + DOCUMENT + ": the face is not looked up there");
            return;
        }
        Set<String> told = new TreeSet<>();
        Matcher line = Pattern.compile("(?m)^    public (int|long) (\\w+)\\(([^)]*)\\);$")
            .matcher(Files.readString(DOCUMENT));
        while (line.find()) {
            String types = line.group(3).replaceAll("(int|boolean) \\w+", "$1").replace(" ", "");
            told.add(line.group(1) + " " + line.group(2) + "(" + types + ")");
        }
        hold(told.equals(new TreeSet<>(Arrays.asList(FACE))), "the document's face is " + told);
    }

    private static void face() {
        Set<String> seen = new TreeSet<>();
        Set<String> publicNames = new HashSet<>();
        for (Method method : ThinAir.class.getDeclaredMethods()) {
            if (!Modifier.isPrivate(method.getModifiers())) {
                hold(Modifier.isPublic(method.getModifiers()), method + " is neither public nor private");
                StringBuilder parameters = new StringBuilder();
                for (Class<?> type : method.getParameterTypes()) {
                    parameters.append(parameters.length() == 0 ? "" : ",").append(type.getName());
                }
                seen.add(method.getReturnType() + " " + method.getName() + "(" + parameters + ")");
                publicNames.add(method.getName());
            }
        }
        hold(seen.equals(new TreeSet<>(Arrays.asList(FACE))), "the public methods are " + seen);
        Constructor<?>[] made = ThinAir.class.getDeclaredConstructors();
        hold(made.length == 1 && Modifier.isPublic(made[0].getModifiers()) && made[0].getParameterCount() == 0,
            "the constructor");
        hold(Modifier.isFinal(ThinAir.class.getModifiers()), "the class is not final");
        for (Class<?> inside : ThinAir.class.getDeclaredClasses()) {
            for (Method method : inside.getDeclaredMethods()) {
                hold(!publicNames.contains(method.getName()), method + " bears the name of a public one");
            }
        }
        for (Method method : ThinAir.class.getDeclaredMethods()) {
            hold(Modifier.isPublic(method.getModifiers()) || !publicNames.contains(method.getName()),
                method + " bears the name of a public one");
        }
    }

    private static List<Class<?>> all() {
        List<Class<?>> all = new ArrayList<>(Arrays.asList(ThinAir.class.getDeclaredClasses()));
        all.add(ThinAir.class);
        return all;
    }

    private static void classes() {
        hold(all().size() <= 12, "classes: " + all().size());
        for (Class<?> inside : ThinAir.class.getDeclaredClasses()) {
            hold(Modifier.isStatic(inside.getModifiers()) && !Modifier.isPublic(inside.getModifiers())
                && !Modifier.isProtected(inside.getModifiers()), inside + " is not static, or seen outside");
        }
        for (Class<?> each : all()) {
            for (Method method : each.getDeclaredMethods()) {
                hold(method.getParameterCount() <= 7, method + " takes more than seven");
                hold(!method.isSynthetic() || method.isBridge(), method + " is a lambda or the like");
            }
            for (Constructor<?> made : each.getDeclaredConstructors()) {
                hold(made.getParameterCount() <= 7, made + " takes more than seven");
            }
        }
    }

    private static void fields() {
        Set<String> open = new TreeSet<>();
        for (Class<?> each : all()) {
            int many = 0;
            for (Field field : each.getDeclaredFields()) {
                boolean still = Modifier.isStatic(field.getModifiers());
                many += still ? 0 : 1;
                hold(!still || Modifier.isFinal(field.getModifiers()), field + " is static and not final");
                if (each == ThinAir.class && !Modifier.isPrivate(field.getModifiers())) {
                    open.add(field.getName());
                    hold(still && Modifier.isPublic(field.getModifiers()) && field.getType() == int.class,
                        field + " is not a constant of the face");
                }
            }
            hold(many <= 20, each + " has " + many + " fields");
        }
        hold(open.equals(new TreeSet<>(List.of("BAD", "FULL", "FINDING", "STATE", "NONE"))), "constants: " + open);
    }

    /** The source without comments, and without what stands in quotes. */
    private static String bare() throws Exception {
        String source = Files.readString(SOURCE);
        return source.replaceAll("(?s)/\\*.*?\\*/", "").replaceAll("//[^\n]*", "")
            .replaceAll("'(\\\\.|[^'])'", "0").replaceAll("\"(\\\\.|[^\"\n])*\"", "\"\"");
    }

    private static void words() throws Exception {
        String code = bare();
        String[] out = {"\\bthrow\\b", "\\bthrows\\b", "\\btry\\b", "\\bcatch\\b", "\\bsynchronized\\b",
            "\\bassert\\b", "->", "::", "Exact\\b", "\\bpackage\\b", "static\\s*\\{", "\\bdouble\\b", "\\bfloat\\b",
            "\\bhashCode\\b", "\\bprotected\\b", "\\bSystem\\.(?!arraycopy)", "\\bRandom\\b", "\\bThread\\b",
            "\\bObject\\b", "new\\s+\\w+\\([^()]*\\)\\s*\\{"};
        for (String word : out) {
            Matcher matcher = Pattern.compile(word).matcher(code);
            hold(!matcher.find(), "the source has " + word);
        }
        Matcher used = Pattern.compile("\\b(Arrays|System|Math|Integer|Long|Character|String|Objects)\\.\\w+")
            .matcher(code);
        while (used.find()) {
            hold(LIBRARY.contains(used.group()), "the source uses " + used.group());
        }
        Matcher imports = Pattern.compile("import\\s+([^;]+);").matcher(code);
        while (imports.find()) {
            hold(imports.group(1).equals("java.util.Arrays"), "import " + imports.group(1));
        }
        for (int i = 0; i < code.length(); i++) {
            hold(code.charAt(i) < 128, "a sign above 127");
        }
    }

    private static void longMethods() throws Exception {
        String[] lines = Files.readString(SOURCE).split("\n");
        for (int i = 0; i < lines.length; i++) {
            String line = lines[i];
            if (!line.matches("\\s+[^=;/*]*\\)\\s*\\{") || line.matches("\\s+(\\}\\s*)?(if|for|while|switch|else)\\b.*")
                    || line.matches("\\s+(\\|\\||&&).*")) {
                continue;
            }
            String end = line.replaceAll("\\S.*", "") + "}";
            int j = i;
            while (j < lines.length && !lines[j].equals(end)) {
                j++;
            }
            hold(j - i + 1 <= 60, "long: " + line.trim() + " " + (j - i + 1));
        }
    }
}
