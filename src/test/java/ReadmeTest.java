import java.lang.reflect.Method;
import java.lang.reflect.Modifier;
import java.nio.file.Files;
import java.nio.file.Path;
import java.nio.file.Paths;
import java.util.LinkedHashMap;
import java.util.Map;
import java.util.Set;
import java.util.TreeSet;
import java.util.regex.Matcher;
import java.util.regex.Pattern;
import java.util.stream.Collectors;
import java.util.stream.Stream;

/** What README.md says: its calls are made and its answers are due; its tables leave nothing out. */
public final class ReadmeTest {
    private static final Due DUE = new Due("ReadmeTest");
    private static final String NEW_DESK = "GuardDesk x = new GuardDesk();";
    private static final Pattern BLOCK = Pattern.compile("(?ms)^```java\n(.*?)^```$");
    private static final Pattern CALL = Pattern.compile(
        "x\\.(\\w+)\\(([^)]*)\\); +// ([A-Z]+|-?\\d+)(?:: .*)?");
    private static final Map<String, Integer> FINDINGS = new LinkedHashMap<>();
    private static final Set<String> SHOWN = new TreeSet<>();

    public static void main(String[] args) throws Exception {
        FINDINGS.put("BAD", Due.BAD);
        FINDINGS.put("NONE", Due.NONE);
        FINDINGS.put("NOTHING", Due.NOTHING);
        FINDINGS.put("PLACE", Due.PLACE);
        FINDINGS.put("SORT", Due.SORT);
        FINDINGS.put("SIZE", Due.SIZE);
        String text = Files.readString(Paths.get("README.md"));
        Matcher block = BLOCK.matcher(text);
        while (block.find()) {
            example(block.group(1));
        }
        allCallsShown();
        findingsTable(text);
        loneFinding();
        testTable(text);
        DUE.end();
    }

    private static void example(String block) throws Exception {
        String[] lines = block.split("\n");
        DUE.holds("an example makes its own object: " + lines[0], lines[0].equals(NEW_DESK));
        GuardDesk x = new GuardDesk();
        for (int i = 1; i < lines.length; i++) {
            Matcher call = CALL.matcher(lines[i]);
            boolean readable = call.matches();
            DUE.holds("a call with its answer: " + lines[i], readable);
            if (readable) {
                String told = call.group(3);
                DUE.holds("a number or a finding: " + told,
                    FINDINGS.containsKey(told) || told.matches("-?\\d+"));
                int want = FINDINGS.containsKey(told) ? FINDINGS.get(told) : Integer.parseInt(told);
                DUE.is(lines[i], answer(x, call.group(1), call.group(2)), want);
                SHOWN.add(call.group(1));
            }
        }
    }

    private static int answer(GuardDesk x, String name, String told) throws Exception {
        String[] words = told.isEmpty() ? new String[0] : told.split(", ");
        for (Method method : GuardDesk.class.getMethods()) {
            if (method.getName().equals(name) && method.getParameterCount() == words.length) {
                Object[] values = new Object[words.length];
                for (int i = 0; i < words.length; i++) {
                    boolean truth = method.getParameterTypes()[i] == boolean.class;
                    values[i] = truth ? (Object) Boolean.valueOf(words[i]) : Integer.valueOf(words[i]);
                }
                return (int) method.invoke(x, values);
            }
        }
        throw new IllegalStateException("README.md shows a call that is none: " + name);
    }

    private static void allCallsShown() {
        Set<String> face = new TreeSet<>();
        for (Method method : GuardDesk.class.getDeclaredMethods()) {
            if (Modifier.isPublic(method.getModifiers())) {
                face.add(method.getName());
            }
        }
        DUE.holds("every call is shown: " + SHOWN, SHOWN.equals(face));
    }

    private static void findingsTable(String text) {
        Map<String, Integer> told = new LinkedHashMap<>();
        Matcher row = Pattern.compile("(?m)^\\| (-\\d+) \\| ([A-Z]+) \\|").matcher(text);
        while (row.find()) {
            told.put(row.group(2), Integer.valueOf(row.group(1)));
        }
        DUE.holds("the findings are told: " + told, told.equals(FINDINGS));
        for (Map.Entry<String, Integer> finding : FINDINGS.entrySet()) {
            String words = finding.getValue() + " " + finding.getKey();
            DUE.holds("the document has " + words, Document.says("Terms", words));
        }
    }

    /** "One answer is none though it may be as low: what write tells of a row of ints." */
    private static void loneFinding() {
        GuardDesk x = new GuardDesk();
        x.sheet(0, 2, 1);
        x.write(0, 0, Due.PLACE);
        DUE.is("write(0, 0, 7) over the number of PLACE", x.write(0, 0, 7), Due.PLACE);
        DUE.is("write(0, 0, 0) tells that it was written", x.write(0, 0, 0), 7);
        DUE.is("count(6)", x.count(6), 0);
    }

    private static void testTable(String text) throws Exception {
        Set<String> told = new TreeSet<>();
        Matcher name = Pattern.compile("\\b[A-Z]\\w*Test\\b").matcher(text);
        while (name.find()) {
            told.add(name.group());
        }
        Set<String> there;
        try (Stream<Path> files = Files.list(Paths.get("src/test/java"))) {
            there = files.map(file -> file.getFileName().toString())
                .filter(file -> file.endsWith("Test.java"))
                .map(file -> file.substring(0, file.length() - ".java".length()))
                .collect(Collectors.toCollection(TreeSet::new));
        }
        DUE.holds("the tests told are those that are there: " + told, told.equals(there));
        DUE.holds(".ci/run can be run", Files.isExecutable(Paths.get(".ci/run")));
    }
}
