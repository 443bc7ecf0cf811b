import java.io.IOException;
import java.lang.reflect.Field;
import java.lang.reflect.Method;
import java.lang.reflect.Modifier;
import java.nio.file.Files;
import java.nio.file.Path;
import java.util.ArrayList;
import java.util.Arrays;
import java.util.LinkedHashMap;
import java.util.List;
import java.util.Map;
import java.util.TreeSet;
import java.util.regex.Matcher;
import java.util.regex.Pattern;

/**
 * README.md tells the truth: each line of its example answers as it says, its constants are those of the
 * class, each call of the face has a row, and each row names the refusals that the call has, in their order.
 */
public final class SmokeGoesToReadme {
    private static final Path README = Path.of("README.md");
    private static final Path DOCUMENT = Path.of("../shared/DOC.md");

    private static final Pattern EXAMPLE = Pattern.compile("(?s)```java\n(.*?)```");
    private static final Pattern MADE = Pattern.compile("SmokeGoesTo fire = new SmokeGoesTo\\(\\);");
    private static final Pattern FED =
        Pattern.compile("for \\(char letter : \"([^\"]*)\"\\.toCharArray\\(\\)\\) fire\\.feed\\(letter\\);");
    private static final Pattern ANSWERED = Pattern.compile("fire\\.(\\w+\\([-\\d, ]*\\)); +// ([-\\w]+): .+");
    private static final Pattern CALL = Pattern.compile("(\\w+)\\(([-\\d, ]*)\\)");
    private static final Pattern ROW = Pattern.compile("\\| `((?:int|long) (\\w+)\\([^`]*\\))` \\| .+ \\|([^|]*)\\|");
    private static final Pattern CONSTANT = Pattern.compile("\\| (-\\d+) \\| `([A-Z]+)` \\| .+ \\|");
    private static final Pattern KIND = Pattern.compile("\\| (\\d) \\| ([A-Z]+)(?:, an? ([A-Z]+))? \\|.*");
    private static final Pattern QUOTED = Pattern.compile("`([^`]+)`");

    private static int wrong = 0;
    private static int lines = 0;

    public static void main(String[] args) throws IOException, ReflectiveOperationException {
        String readme = Files.readString(README);
        example(readme);
        newObject(readme);
        constants(readme);
        kinds(readme);
        face(readme);
        tests(readme);
        System.out.println(wrong == 0 ? lines + " lines of README.md are right" : wrong + " lines are not right");
        if (wrong != 0) System.exit(1);
    }

    private static void must(boolean holds, String what) {
        lines++;
        if (holds) return;
        wrong++;
        System.out.println("README.md: not so: " + what);
    }

    // ---- calls by their texts

    private static Method method(String name) {
        for (Method m : SmokeGoesTo.class.getMethods()) {
            if (m.getDeclaringClass() == SmokeGoesTo.class && m.getName().equals(name)) return m;
        }
        throw new IllegalArgumentException("no call " + name);
    }

    private static long answer(SmokeGoesTo x, String call) throws ReflectiveOperationException {
        Matcher m = CALL.matcher(call);
        if (!m.matches()) throw new IllegalArgumentException("not a call: " + call);
        String list = m.group(2).trim();
        Object[] given = list.isEmpty() ? new Object[0]
            : Arrays.stream(list.split(",")).map(v -> (Object) Integer.valueOf(v.trim())).toArray();
        return ((Number) method(m.group(1)).invoke(x, given)).longValue();
    }

    private static long number(String told) throws ReflectiveOperationException {
        if (told.matches("-?\\d+")) return Long.parseLong(told);
        return ((Number) SmokeGoesTo.class.getField(told).get(null)).longValue();
    }

    // ---- the page's parts

    private static void example(String readme) throws ReflectiveOperationException {
        Matcher block = EXAMPLE.matcher(readme);
        must(block.find(), "there is an example");
        String[] all = block.group(1).split("\n");
        must(MADE.matcher(all[0]).matches(), "it makes an object: " + all[0]);
        SmokeGoesTo fire = new SmokeGoesTo();
        for (int i = 1; i < all.length; i++) {
            Matcher fed = FED.matcher(all[i]);
            if (fed.matches()) {
                for (char letter : fed.group(1).toCharArray()) fire.feed(letter);
                continue;
            }
            Matcher answered = ANSWERED.matcher(all[i]);
            must(answered.matches(), "a call and its answer: " + all[i]);
            if (!answered.matches()) continue;
            long got = answer(fire, answered.group(1));
            must(got == number(answered.group(2)), all[i] + " (it answered " + got + ")");
        }
    }

    private static void newObject(String readme) {
        String first = "THE SMOKE at PLACE 0, LEFT and RIGHT 30 of 100, no TENTS, no EDDY";
        must(readme.contains(first), first);
        must(readme.replace('\n', ' ').contains("THE RULE `bears 5 + long ; moves 3 ; heat 0 ;`"), "THE RULE at first");
        SmokeGoesTo x = new SmokeGoesTo();
        long[] counts = {0, 0, 30, 30, 0, 0, 1, 0, 0};
        for (int what = 0; what < counts.length; what++) must(x.count(what) == counts[what], "count(" + what + ") at first");
    }

    private static void constants(String readme) throws ReflectiveOperationException {
        TreeSet<String> told = new TreeSet<>();
        for (String line : readme.split("\n")) {
            Matcher m = CONSTANT.matcher(line);
            if (!m.matches()) continue;
            told.add(m.group(2));
            must(number(m.group(2)) == Long.parseLong(m.group(1)), line);
        }
        TreeSet<String> due = new TreeSet<>();
        for (Field f : SmokeGoesTo.class.getFields()) due.add(f.getName());
        must(told.equals(due), "the constants are " + due);
    }

    private static void kinds(String readme) {
        List<String> names = new ArrayList<>();
        List<String> above = new ArrayList<>();
        for (String line : readme.split("\n")) {
            Matcher m = KIND.matcher(line);
            if (!m.matches()) continue;
            must(Integer.parseInt(m.group(1)) == names.size(), "KINDS in their order: " + line);
            names.add(m.group(2));
            above.add(m.group(3));
        }
        must(names.size() == 6, "six KINDS");
        for (int kind = 1; kind < names.size(); kind++) {
            SmokeGoesTo x = new SmokeGoesTo();
            x.sitter(kind, 9, 0);
            for (int k = 0; k < names.size(); k++) {
                boolean under = k == kind || k == names.indexOf(above.get(kind)) || k == 0;
                must(x.taken(0, k) == (under ? 9 : -13), names.get(kind) + " taken for a " + names.get(k));
            }
        }
    }

    private static void face(String readme) throws IOException, ReflectiveOperationException {
        String document = Files.exists(DOCUMENT) ? Files.readString(DOCUMENT) : null;
        Map<String, String> rows = new LinkedHashMap<>();
        for (String line : readme.split("\n")) {
            Matcher m = ROW.matcher(line);
            if (!m.matches()) continue;
            must(rows.put(m.group(2), m.group(3)) == null, "one row for " + m.group(2));
            must(document == null || document.contains("public " + m.group(1) + ";"), "the face's " + m.group(1));
        }
        Map<String, List<String>> due = refusals();
        for (Method m : SmokeGoesTo.class.getDeclaredMethods()) {
            if (!Modifier.isPublic(m.getModifiers())) continue;
            String name = m.getName();
            must(rows.containsKey(name), "a row for " + name);
            must(quoted(rows.getOrDefault(name, "")).equals(due.getOrDefault(name, List.of())),
                "refusals of " + name + ": " + due.get(name));
        }
        must(rows.size() == 27, "twenty-seven calls");
    }

    private static List<String> quoted(String cell) {
        List<String> all = new ArrayList<>();
        Matcher m = QUOTED.matcher(cell);
        while (m.find()) all.add(m.group(1));
        return all;
    }

    /** Each refusal of each call, in the order that the rows must tell. */
    private static final String[][] REFUSED = {
        {"set(7, 0, 0)", "BAD"}, {"sitter(0, 0, 0); sitter(0, 0, 1); set(6, 0, 1)", "STATE"},
        {"sitter(6, 0, 0)", "BAD"}, {"sitter(0, 0, 0); sitter(0, 0, 0)", "STATE"},
        {"sitter(0, 0, 0); sitter(0, 0, 1); sitter(0, 0, 2); sitter(0, 0, 3); sitter(0, 0, 4); sitter(0, 0, 5)", "FULL"},
        {"told(0, 0)", "BAD"},
        {"feed(256)", "BAD"}, {"feed(32); ".repeat(160) + "feed(32)", "FULL"},
        {textsAhead(5) + "text()", "FULL"},
        {"force(1)", "BAD"},
        {"night(0, 0)", "-100"},
        {"sit(4)", "BAD"}, {"sit(0)", "-11"},
        {"likely(9, 0, 0)", "NO"}, {"mean(0, 0, 0)", "NO"},
        {"seat(0, 1)", "BAD"}, {"gap(1, 0)", "BAD"},
        {"stay(4)", "BAD"}, {"stay(0)", "-11"},
        {"eddies(0)", "-100000"},
        {"sitter(0, 0, 0); best(0, 0, 2)", "BAD"}, {"sitter(0, 0, 0); best(0, 0, 0)", "-11"},
        {"eyes(0, 0, -1)", "-100"},
        {"film(4, 0)", "BAD"}, {"film(0, 1)", "-11"},
        {"chance(0, 0, 0)", "NO"},
        {"back()", "STATE"},
        {"count(9)", "BAD"},
        {"sheet(0, 0, 41)", "BAD"}, {"sheet(0, 0, -1)", "-14"},
        {"cell(4, 0, 0)", "BAD"}, {"cell(0, 0, 0)", "-11"}, {"sheet(0, 0, 1); cell(0, 1, 0)", "-12"},
        {"copy(0, 0, 4, 0, 0)", "BAD"}, {"copy(0, 0, 1, 0, 0)", "-11"},
        {"sheet(0, 0, 1); sheet(1, 1, 1); copy(0, 2, 1, 0, 1)", "-13"},
        {"sheet(0, 0, 1); sheet(1, 0, 1); copy(0, 0, 1, 0, -1)", "-12"},
        {"sitters(0, 3, 0, 0)", "BAD"}, {"sitters(0, 0, 0, 0)", "-11"},
        {"sheet(0, 1, 2); sitters(0, 0, 0, 1)", "-13"}, {"sheet(0, 0, 2); sitters(0, 0, 0, 1)", "-12"},
        {"taken(0, 6)", "BAD"}, {"taken(0, 0)", "-11"}, {"sitter(0, 0, 0); taken(0, 1)", "-13"},
    };

    /** Calls that read so many TEXTS. */
    private static String textsAhead(int n) {
        StringBuilder one = new StringBuilder();
        for (char letter : "bears1;moves1;heat1;".toCharArray()) one.append("feed(").append((int) letter).append("); ");
        return (one + "text(); ").repeat(n);
    }

    private static Map<String, List<String>> refusals() throws ReflectiveOperationException {
        Map<String, List<String>> all = new LinkedHashMap<>();
        for (String[] refused : REFUSED) {
            SmokeGoesTo x = new SmokeGoesTo();
            String[] calls = refused[0].split("; ");
            for (int i = 0; i < calls.length - 1; i++) answer(x, calls[i]);
            String last = calls[calls.length - 1];
            long got = answer(x, last);
            must(got == number(refused[1]), last + " is refused by " + refused[1] + ", not " + got);
            all.computeIfAbsent(last.substring(0, last.indexOf('(')), name -> new ArrayList<>()).add(refused[1]);
        }
        return all;
    }

    private static void tests(String readme) throws IOException {
        try (var files = Files.list(Path.of("src/test/java"))) {
            for (Object file : files.sorted().toArray()) {
                String name = ((Path) file).getFileName().toString().replace(".java", "");
                must(readme.contains("- `" + name + "`: "), "a line for the test " + name);
            }
        }
    }
}
