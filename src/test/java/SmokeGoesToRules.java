import java.io.IOException;
import java.lang.reflect.Constructor;
import java.lang.reflect.Field;
import java.lang.reflect.Method;
import java.lang.reflect.Modifier;
import java.nio.file.Files;
import java.nio.file.Path;
import java.util.Arrays;
import java.util.Set;
import java.util.TreeSet;
import java.util.regex.Matcher;
import java.util.regex.Pattern;

/** The document's face by reflection, and what of LANGUAGE.md a look at the source can tell. */
public final class SmokeGoesToRules {
    private static final Path SOURCE = Path.of("src/main/java/SmokeGoesTo.java");
    private static final String[] FACE = {"int set(int,int,int)", "int sitter(int,int,int)", "int told(int,int)",
        "int feed(int)", "int text()", "int force(int)", "int night(int,int)", "int sit(int)",
        "long likely(int,int,int)", "long mean(int,int,int)", "int seat(int,int)", "int gap(int,int)",
        "int stay(int)", "int eddies(int)", "int best(int,int,int)", "int eyes(int,int,int)", "int film(int,int)",
        "int drawn(int)", "long chance(int,int,int)", "int image()", "int back()", "int count(int)",
        "int sheet(int,int,int)", "int cell(int,int,int)", "int copy(int,int,int,int,int)",
        "int sitters(int,int,int,int)", "int taken(int,int)"};
    private static int wrong = 0;

    private static void must(boolean holds, String what) {
        if (holds) return;
        wrong++;
        System.out.println("not so: " + what);
    }

    public static void main(String[] args) throws IOException {
        face();
        classesInside();
        source(Files.readString(SOURCE));
        System.out.println(wrong == 0 ? "the rules are kept" : wrong + " rules are not kept");
        if (wrong != 0) System.exit(1);
    }

    private static String signature(Method m) {
        StringBuilder all = new StringBuilder(m.getReturnType().getName()).append(" ").append(m.getName()).append("(");
        for (Class<?> type : m.getParameterTypes()) {
            if (all.charAt(all.length() - 1) != '(') all.append(",");
            all.append(type.getName());
        }
        return all.append(")").toString();
    }

    private static void face() {
        Class<?> c = SmokeGoesTo.class;
        must(Modifier.isFinal(c.getModifiers()) && Modifier.isPublic(c.getModifiers()), "public final class");
        Set<String> methods = new TreeSet<>();
        Set<String> names = new TreeSet<>();
        for (Method m : c.getDeclaredMethods()) {
            if (Modifier.isPrivate(m.getModifiers()) || m.isSynthetic()) continue;
            methods.add(signature(m));
            names.add(m.getName());
            must(m.getModifiers() == Modifier.PUBLIC, m + " is public alone");
        }
        must(methods.equals(new TreeSet<>(Arrays.asList(FACE))), "the methods are those of the document: " + methods);
        for (Method m : c.getDeclaredMethods()) {
            must(!Modifier.isPrivate(m.getModifiers()) || !names.contains(m.getName()), m + " bears a public name");
        }
        Set<String> fields = new TreeSet<>();
        for (Field f : c.getDeclaredFields()) {
            if (!Modifier.isPrivate(f.getModifiers())) fields.add(f.getType() + " " + f.getName());
        }
        must(fields.equals(Set.of("int NONE", "int BAD", "int STATE", "int FULL", "long NO")), "constants: " + fields);
        Constructor<?>[] made = c.getDeclaredConstructors();
        must(made.length == 1 && made[0].getParameterCount() == 0 && Modifier.isPublic(made[0].getModifiers()),
            "one constructor");
    }

    private static void classesInside() {
        Class<?>[] inside = SmokeGoesTo.class.getDeclaredClasses();
        must(inside.length + 1 <= 12, "twelve classes at most");
        for (Class<?> c : inside) {
            must(Modifier.isStatic(c.getModifiers()), c + " is static");
            must(!Modifier.isPublic(c.getModifiers()) && !Modifier.isProtected(c.getModifiers()), c + " isn't seen");
            must(c.getDeclaredClasses().length == 0, c + " holds no class");
            int fields = 0;
            for (Field f : c.getDeclaredFields()) {
                if (!Modifier.isStatic(f.getModifiers())) fields++;
                must(!Modifier.isStatic(f.getModifiers()) || Modifier.isFinal(f.getModifiers()), f + " is final");
            }
            must(fields <= 20, c + " has twenty fields at most");
            for (Method m : c.getDeclaredMethods()) {
                must(m.getParameterCount() <= 7, m + " takes seven at most");
                must(!Set.of("equals", "hashCode", "toString").contains(m.getName()), m + " is not to be");
            }
        }
    }

    private static void source(String text) {
        must(text.chars().allMatch(c -> c == '\n' || c >= 32 && c < 127), "plain signs alone");
        String code = text.replaceAll("(?s)/\\*.*?\\*/", "").replaceAll("//[^\n]*", "")
            .replaceAll("\"[^\"\n]*\"", "\"\"").replaceAll("'[^\n]'|'\\\\.'", "' '");
        String[] words = {"throw", "throws", "try", "catch", "finally", "synchronized", "assert", "package", "instanceof",
            "protected", "volatile", "native", "Object", "System\\.(?!arraycopy)\\w+", "Math\\.\\w+Exact", "->", "::",
            "Random", "Thread", "@\\w+", "static\\s*\\{"};
        for (String word : words) {
            String bound = Character.isLetter(word.charAt(0)) ? "\\b" + word : word;
            Matcher m = Pattern.compile(bound + (word.matches("\\w+") ? "\\b" : "")).matcher(code);
            must(!m.find(), "no " + word + " in it");
        }
        Matcher imports = Pattern.compile("import ([\\w.]+);").matcher(code);
        while (imports.find()) must(imports.group(1).equals("java.util.Arrays"), "import of " + imports.group(1));
        Matcher methods = Pattern.compile("(?m)^( {4}| {8})(?! )[^\n=;]*\\) \\{\n(?s:.*?)\n\\1\\}").matcher(code);
        int seen = 0;
        while (methods.find()) {
            seen++;
            int lines = methods.group().split("\n").length;
            must(lines <= 60, "sixty lines at most: " + methods.group().split("\n")[0]);
        }
        must(seen > 80, "the methods are seen: " + seen);
    }
}
