import java.io.IOException;
import java.lang.reflect.Constructor;
import java.lang.reflect.Field;
import java.lang.reflect.Method;
import java.lang.reflect.Modifier;
import java.nio.file.Files;
import java.nio.file.Path;
import java.util.ArrayList;
import java.util.Arrays;
import java.util.List;
import java.util.Set;
import java.util.TreeSet;
import java.util.regex.Matcher;
import java.util.regex.Pattern;

/** The rules of LANGUAGE.md that a program can look at, and the document's face. */
public final class LanguageTest {
    private static final String FACE = "again() as(2) ask(2) back() behind(2) butOne() check(1) conclave(1) copy(5) "
            + "count(1) deal(1) decides() ends() fee() feed(3) fine(1) fits(2) item(2) keep() lay(3) mark(3) party(1) "
            + "pour(1) reads(1) rest(2) rounds(1) rule(2) seed(1) set(3) sheet(3) smokes(1) splits(2) tell(1) text() "
            + "textTold(2) told(2) trim(1) turns(2) voter(4) why(1) won(3)";
    private static final String CONSTANTS = "BAD=-1000000001 FULL=-1000000003 INDEX=-1000000013 KIND=-1000000012 "
            + "NO=-1000000002 NONE=-1000000005 NOTHING=-1000000011 SIZE=-1000000014";
    private static final String[] FORBIDDEN = {"throw", "try", "catch", "synchronized", "assert", "throws", "finally",
        "native", "volatile", "transient", "package", "Object", "System\\.(?!arraycopy)", "Thread", "Random", "Exact",
        "hashCode", "toString", "double", "var", "yield"};
    private static int wrong = 0;

    public static void main(String[] args) throws IOException, IllegalAccessException {
        String source = Files.readString(Path.of(args[0]));
        face();
        classes();
        words(withoutComments(source));
        lengths(source.split("\n"));
        System.out.println(wrong == 0 ? "the language is kept to" : wrong + " rules are broken");
        System.exit(wrong == 0 ? 0 : 1);
    }

    private static void must(boolean holds, String what) {
        if (!holds) {
            wrong++;
            System.out.println("broken: " + what);
        }
    }

    private static String withoutComments(String source) {
        return source.replaceAll("(?s)/\\*.*?\\*/", "").replaceAll("//[^\n]*", "");
    }

    private static void face() throws IllegalAccessException {
        Class<?> c = SmokeVotes.class;
        must(Modifier.isPublic(c.getModifiers()) && Modifier.isFinal(c.getModifiers()), "the class is public and final");
        Set<String> methods = new TreeSet<>();
        for (Method m : c.getDeclaredMethods()) {
            if (!Modifier.isPrivate(m.getModifiers())) {
                int n = m.getParameterCount();
                methods.add(m.getName() + "(" + (n == 0 ? "" : String.valueOf(n)) + ")");
                must(Modifier.isPublic(m.getModifiers()) && !Modifier.isStatic(m.getModifiers()), m + " is of the face");
                must(m.getReturnType() == int.class, m + " answers an int");
                must(Arrays.stream(m.getParameterTypes()).allMatch(t -> t == int.class), m + " takes ints");
            }
        }
        must(String.join(" ", methods).equals(FACE), "the methods are those of the document: " + methods);
        Set<String> constants = new TreeSet<>();
        for (Field f : c.getDeclaredFields()) {
            if (!Modifier.isPrivate(f.getModifiers())) {
                constants.add(f.getName() + "=" + f.get(null));
            }
        }
        must(String.join(" ", constants).equals(CONSTANTS), "the constants are those of the document: " + constants);
        Constructor<?>[] makers = c.getDeclaredConstructors();
        must(makers.length == 1 && Modifier.isPublic(makers[0].getModifiers()) && makers[0].getParameterCount() == 0,
                "there is one constructor");
    }

    private static void classes() {
        List<Class<?>> all = new ArrayList<>(List.of(SmokeVotes.class.getDeclaredClasses()));
        must(all.size() < 12, "at most some twelve classes");
        Set<String> open = new TreeSet<>();
        for (String name : FACE.split(" ")) {
            open.add(name.substring(0, name.indexOf('(')));
        }
        for (Class<?> c : all) {
            must(Modifier.isStatic(c.getModifiers()) && !Modifier.isPublic(c.getModifiers()), c + " is static, not public");
            for (Method m : c.getDeclaredMethods()) {
                must(!open.contains(m.getName()), m + " bears the name of a public one");
            }
        }
        all.add(SmokeVotes.class);
        for (Class<?> c : all) {
            long fields = Arrays.stream(c.getDeclaredFields()).filter(f -> !Modifier.isStatic(f.getModifiers())).count();
            must(fields <= 20, c + " has some twenty fields at most");
            for (Field f : c.getDeclaredFields()) {
                must(!Modifier.isStatic(f.getModifiers()) || Modifier.isFinal(f.getModifiers()), f + " is final");
            }
            for (Method m : c.getDeclaredMethods()) {
                must(m.getParameterCount() <= 7, m + " takes at most seven");
                must(!m.isSynthetic(), m + " is no lambda's");
                must(c != SmokeVotes.class || !Modifier.isPrivate(m.getModifiers()) || !open.contains(m.getName()),
                        m + " bears the name of a public one");
            }
        }
    }

    private static void words(String code) {
        String bare = code.replaceAll("\"[^\"\n]*\"", "\"\"");
        for (String word : FORBIDDEN) {
            Matcher m = Pattern.compile("\\b" + word + "\\b|\\b" + word + "(?=[A-Z])").matcher(bare);
            must(!m.find(), "no " + word);
        }
        must(!bare.contains("->") && !bare.contains("::"), "no lambda, no method reference");
        must(!Pattern.compile("\"\\s*\\+|\\+\\s*\"").matcher(bare).find(), "texts are not joined by +");
        Matcher imports = Pattern.compile("import ([^;]*);").matcher(bare);
        while (imports.find()) {
            must(imports.group(1).equals("java.util.Arrays"), "no import of " + imports.group(1));
        }
        must(code.chars().allMatch(b -> b < 128), "signs are 1 to 127");
    }

    private static void lengths(String[] lines) {
        int from = -1;
        String indent = "";
        for (int i = 0; i < lines.length; i++) {
            Matcher head = Pattern.compile("^((?: {4}){1,2})[A-Za-z].*\\) \\{$").matcher(lines[i]);
            if (from < 0 && head.matches()) {
                from = i;
                indent = head.group(1);
            } else if (from >= 0 && lines[i].equals(indent + "}")) {
                must(i - from < 60, "the method at line " + (from + 1) + " is short");
                from = -1;
            }
        }
    }
}
