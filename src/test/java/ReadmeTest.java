import java.io.IOException;
import java.nio.file.Files;
import java.nio.file.Path;
import java.util.ArrayList;
import java.util.Arrays;
import java.util.LinkedHashMap;
import java.util.List;
import java.util.Map;
import java.util.regex.Matcher;
import java.util.regex.Pattern;
import java.util.stream.Stream;

/** README.md tells the class as it is: its run of calls, its calls with their refusals, its kinds, its tests. */
final class ReadmeTest {
    private static final Pattern MADE = Pattern.compile("hall\\.(\\w+)\\(([^)]*)\\); +// (-?\\d+): .+");
    private static final Pattern FED = Pattern.compile("for \\(char letter : \"([^\"]*)\"\\.toCharArray\\(\\)\\) hall\\.feed\\(letter\\);");
    private static final Pattern ROW = Pattern.compile("\\| `(\\w+\\([^`]*\\))` \\| .* \\|((?: -\\d,?)*) \\|");
    private static final Pattern FACE = Pattern.compile("    public (?:int|long) (\\w+)\\(([^)]*)\\);");
    private static final Pattern PROMISE = Pattern.compile("`(?:int|long) (\\w+)\\([^`]*`: (.*)");
    private final List<String> readme;
    private int wrong = 0;

    private ReadmeTest(List<String> readme) { this.readme = readme; }

    public static void main(String[] args) throws IOException {
        ReadmeTest test = new ReadmeTest(Files.readAllLines(Path.of("README.md")));
        int calls = test.run();
        test.callsAreToldAs(Files.readAllLines(Path.of("../shared/DOC.md")));
        test.kinds();
        test.tests();
        System.out.println(test.wrong == 0 ? "README.md tells " + calls + " answers and all calls as they are" : test.wrong + " things in README.md are wrong");
        if (test.wrong != 0) System.exit(1);
    }

    private void wrong(String what) {
        wrong++;
        System.out.println("README.md: " + what);
    }

    /** The lines of the one block of Java. */
    private int run() {
        int from = readme.indexOf("```java") + 1;
        Calls x = new Calls();
        int answers = 0;
        for (String line : readme.subList(from + 1, from + readme.subList(from, readme.size()).indexOf("```"))) {
            Matcher made = MADE.matcher(line);
            Matcher fed = FED.matcher(line);
            if (fed.matches()) {
                for (char letter : fed.group(1).toCharArray()) x.answer("feed", letter);
            } else if (made.matches()) {
                int[] numbers = Arrays.stream(made.group(2).split(", ")).filter(n -> !n.isEmpty()).mapToInt(Integer::parseInt).toArray();
                long got = x.answer(made.group(1), numbers);
                if (got != Long.parseLong(made.group(3))) wrong(line + " but it answers " + got);
                answers++;
            } else wrong("not understood: " + line);
        }
        if (answers < 20) wrong("a run of " + answers + " answers only");
        return answers;
    }

    /** Each call once, with its numbers by name, and the refusals in the order in which its promise tells them. */
    private void callsAreToldAs(List<String> doc) {
        Map<String, String> due = new LinkedHashMap<>();
        Map<String, String> refused = new LinkedHashMap<>();
        for (String line : doc) {
            Matcher face = FACE.matcher(line);
            Matcher promise = PROMISE.matcher(line);
            if (face.matches()) due.put(face.group(1), face.group(1) + "(" + face.group(2).replaceAll("(int|long) ", "") + ")");
            if (promise.matches()) refused.put(promise.group(1), refusals(promise.group(1), promise.group(2)));
        }
        List<String> told = new ArrayList<>();
        for (String line : readme) {
            Matcher row = ROW.matcher(line);
            if (!row.matches()) continue;
            String name = row.group(1).substring(0, row.group(1).indexOf('('));
            told.add(name);
            if (!row.group(1).equals(due.get(name))) wrong(row.group(1) + " is due to be " + due.get(name));
            if (!row.group(2).strip().equals(refused.get(name))) wrong(name + " is told to be refused by" + row.group(2) + ", due is " + refused.get(name));
        }
        if (due.size() != 46 || !told.stream().sorted().toList().equals(due.keySet().stream().sorted().toList())) wrong("these calls are told: " + told);
    }

    /** The document tells count()'s refusals as numbers to be asked for, and -1 as a number of best(). */
    private static String refusals(String name, String text) {
        if (name.equals("count")) return "";
        List<String> l = new ArrayList<>();
        Matcher m = Pattern.compile("(?<!i |below )-[1-6](?!\\d)").matcher(text);
        while (m.find()) if (!l.contains(m.group())) l.add(m.group());
        return String.join(", ", l);
    }

    /** The table of KINDS, each cell worked out for each FIGURE. */
    private void kinds() {
        int at = 100;
        for (int kind = 0; kind <= 5; kind++) {
            String[] cells = kindRow(kind);
            for (int figure = 0; figure <= 9; figure++) {
                Calls x = new Calls();
                x.answer("couple", kind, figure, at);
                for (int what = 4; what <= 7; what++) {
                    long got = x.answer("coupleOf", 0, what);
                    if (got != worth(cells[what - 1], figure, at)) wrong("KIND " + kind + ", FIGURE " + figure + ": " + cells[what - 1] + " is " + got);
                }
            }
        }
    }

    /** An empty cell, KIND, number, LASTS, READY, GUESTS, POSES. */
    private String[] kindRow(int kind) {
        for (String line : readme) if (line.matches("\\| [A-Z]+ \\| " + kind + " \\| .*")) return line.split(" *\\| *");
        wrong("no row of KIND " + kind);
        return new String[] {"", "", "", "0", "0", "0", "0"};
    }

    private static long worth(String cell, int figure, int at) {
        String rest = cell.replace("2 (FIGURE + 4)", String.valueOf(2 * (figure + 4))).replace("(FIGURE + 4) / 2", String.valueOf((figure + 4) / 2))
            .replace("FIGURE / 2", String.valueOf(figure / 2)).replace("FIGURE", String.valueOf(figure)).replace("AT", String.valueOf(at));
        long sum = 0;
        int sign = 1;
        for (String word : rest.split(" ")) {
            if (word.equals("+") || word.equals("-")) sign = word.equals("+") ? 1 : -1;
            else sum += sign * Long.parseLong(word);
        }
        return sum;
    }

    private void tests() throws IOException {
        List<String> told = readme.stream().map(l -> l.replaceFirst("^\\| `(\\w+Test)` \\|.*", "$1")).filter(l -> l.matches("\\w+Test")).sorted().toList();
        try (Stream<Path> files = Files.list(Path.of("src/test/java"))) {
            List<String> there = files.map(f -> f.getFileName().toString()).filter(f -> f.endsWith("Test.java")).map(f -> f.replace(".java", "")).sorted().toList();
            if (!there.equals(told)) wrong("there are the tests " + there + ", told are " + told);
        }
    }
}
