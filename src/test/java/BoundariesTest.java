import java.io.IOException;
import java.nio.file.Files;
import java.nio.file.Path;
import java.util.ArrayList;
import java.util.List;
import java.util.Set;
import java.util.TreeSet;
import java.util.regex.Matcher;
import java.util.regex.Pattern;
import java.util.stream.Stream;

/**
 * The boundary cases under src/test/boundaries, each under the sentence of the document that names it. Behind each
 * refused call, each FAULT and each call that only asks, a look finds whether anything else has changed.
 * Every word of "Terms" and of the parts II to IV must be told of, and each promise with all its refusals.
 */
final class BoundariesTest {
    private static final Set<String> CHANGING = Set.of("feed", "hall", "couple", "rooms", "weds", "pulls", "slack", "rests", "back", "row", "judge",
        "clear", "image", "restore");
    private static final Pattern CALL = Pattern.compile("(\\w+)\\(([^)]*)\\)((?: -?\\d+)*)");
    private static final Pattern REPEATED = Pattern.compile("\\(([^)]*)\\)(\\d+)");
    private static final Pattern PROMISE = Pattern.compile("## Promise (\\d+): (.*?) `(\\w+ )?(\\w+)\\([^`]*`: (.*?)(?= ## |$)");

    private final String doc;
    private final boolean[] told;
    /** What was seen to be refused: a call's name and the number. */
    private final Set<String> refused = new TreeSet<>();
    private String sentence = "";
    private String place = "";
    private Calls x = new Calls();
    /** What was called on x and has changed anything. */
    private final List<Calls.Call> before = new ArrayList<>();
    private int looked = 0;
    private int wrong = 0;

    private BoundariesTest(String doc) {
        this.doc = doc;
        this.told = new boolean[doc.length()];
    }

    public static void main(String[] args) throws IOException {
        BoundariesTest test = new BoundariesTest(plain(Files.readString(Path.of("../shared/DOC.md"))));
        try (Stream<Path> files = Files.list(Path.of("src/test/boundaries"))) {
            for (Path file : files.sorted().toList()) test.read(file);
        }
        test.findWhatIsNotTold();
        System.out.println(test.wrong == 0 ? test.looked + " boundary cases hold" : test.wrong + " things are not as due");
        if (test.wrong != 0) System.exit(1);
    }

    private static String plain(String text) { return text.replace("```text", " ").replace("```", " ").replaceAll("\\s+", " "); }

    private void wrong(String what) {
        wrong++;
        System.out.println(place + ": " + what + "\n    where the document says: " + sentence);
    }

    private void read(Path file) throws IOException {
        int number = 0;
        for (String line : Files.readAllLines(file)) {
            place = file.getFileName() + ":" + ++number;
            String text = line.replaceAll("\\s*#.*", "").strip();
            if (!text.isEmpty()) obey(text);
        }
    }

    private void obey(String line) {
        String[] words = line.split(" ", 2);
        String rest = words.length > 1 ? words[1] : "";
        switch (words[0]) {
            case "says" -> says(rest);
            case "promise" -> promise(Integer.parseInt(rest));
            case "new" -> anew(rest);
            case "tell" -> tell(rest);
            case "resting" -> resting(Integer.parseInt(rest));
            case "told" -> rowOf(rest.split(" "));
            case "times" -> {
                String[] many = rest.split(" ", 2);
                for (int i = Integer.parseInt(many[0]); i > 0; i--) calls(many[1]);
            }
            default -> calls(line);
        }
    }

    private void says(String quote) {
        sentence = quote;
        int at = doc.indexOf(quote);
        if (at < 0) wrong("the document does not say so");
        // A quote stands for each place at which it stands.
        for (; at >= 0; at = doc.indexOf(quote, at + 1)) for (int i = at; i < at + quote.length(); i++) told[i] = true;
    }

    private void promise(int number) {
        Matcher m = PROMISE.matcher(doc);
        while (m.find()) if (m.group(1).equals(String.valueOf(number))) says(m.group());
    }

    private void anew(String text) {
        x = new Calls();
        before.clear();
        if (text.isEmpty()) return;
        letters(text);
        Calls.Call hall = new Calls.Call("hall");
        if (x.answer(hall) <= 0) wrong("not taken: " + text);
        before.add(hall);
    }

    private void tell(String line) {
        String[] parts = line.split(" ");
        letters(parts[0]);
        due(new Calls.Call("hall"), Long.parseLong(parts[1]));
    }

    private void letters(String text) {
        String all = REPEATED.matcher(text).replaceAll(m -> m.group(1).repeat(Integer.parseInt(m.group(2))));
        for (char letter : all.toCharArray()) made(new Calls.Call("feed", letter));
    }

    private void resting(int minutes) { for (int m = minutes; m > 0; m -= 30) made(new Calls.Call("rests", Math.min(m, 30))); }

    private void rowOf(String... numbers) {
        made(new Calls.Call("clear"));
        for (String n : numbers) made(new Calls.Call("row", Integer.parseInt(n)));
    }

    /** A call with the answer that is due; with a number a .. b as many calls, as many answers; without answers just the call. */
    private void calls(String line) {
        Matcher m = CALL.matcher(line);
        if (!m.matches() || !Calls.isOne(m.group(1))) {
            wrong("not understood: " + line);
            return;
        }
        String[] due = m.group(3).strip().split(" ");
        List<Calls.Call> calls = unfolded(m.group(1), m.group(2));
        if (m.group(3).isEmpty()) calls.forEach(this::made);
        else if (due.length != calls.size()) wrong("not as many answers: " + line);
        else for (int i = 0; i < due.length; i++) due(calls.get(i), Long.parseLong(due[i]));
    }

    private static List<Calls.Call> unfolded(String name, String numbers) {
        List<List<Integer>> all = new ArrayList<>(List.of(List.of()));
        for (String n : numbers.isBlank() ? new String[0] : numbers.split(",")) {
            String[] ends = n.strip().split(" \\.\\. ");
            List<List<Integer>> longer = new ArrayList<>();
            for (List<Integer> l : all) {
                for (long v = Integer.parseInt(ends[0]); v <= Integer.parseInt(ends[ends.length - 1]); v++) {
                    List<Integer> more = new ArrayList<>(l);
                    more.add((int) v);
                    longer.add(more);
                }
            }
            all = longer;
        }
        return all.stream().map(l -> new Calls.Call(name, l)).toList();
    }

    private void made(Calls.Call call) {
        x.answer(call);
        before.add(call);
    }

    private void due(Calls.Call call, long due) {
        looked++;
        long got = x.answer(call);
        if (got != due) wrong(call + " answered " + got + ", due is " + due);
        int number = refusal(call.name(), due);
        if (number > 0) refused.add(call.name() + " -" + number);
        if (number > 0 || !CHANGING.contains(call.name())) {
            unchanged(call, number, before);
        } else if (call.name().equals("hall") && due < 0) {
            List<Calls.Call> without = withoutLetters();
            unchanged(call, 0, without);
            before.clear();
            before.addAll(without);
        } else {
            before.add(call);
        }
    }

    /** Which of the REFUSALS the answer is, 0 none. */
    private static int refusal(String name, long answer) {
        long number = answer;
        if (name.equals("waits") || name.equals("saved")) number = 1000000000L - answer;
        if (name.equals("odds") || name.equals("mean")) number = 4000000000000000000L - answer;
        return number < 0 && number >= -6 ? (int) -number : 0;
    }

    /** What has changed anything, less the letters of the HALL that is told now. */
    private List<Calls.Call> withoutLetters() {
        int from = 0;
        for (int i = 0; i < before.size(); i++) if (before.get(i).name().equals("hall")) from = i + 1;
        List<Calls.Call> less = new ArrayList<>(before.subList(0, from));
        for (Calls.Call call : before.subList(from, before.size())) if (!call.name().equals("feed")) less.add(call);
        return less;
    }

    /** Compares one on which the call was made with one on which it was not. */
    private void unchanged(Calls.Call call, int number, List<Calls.Call> without) {
        List<Long> due = Look.refusals(after(without));
        if (number > 0) due.set(number - 1, due.get(number - 1) + 1);
        List<Calls.Call> with = new ArrayList<>(before);
        with.add(call);
        if (!Look.refusals(after(with)).equals(due)) wrong(call + ": REFUSALS are not as due");
        if (!Look.all(after(with)).equals(Look.all(after(without)))) wrong(call + " has changed something");
        if (!Look.back(after(with)).equals(Look.back(after(without)))) wrong(call + " has changed what can be taken back");
    }

    private static Calls after(List<Calls.Call> calls) {
        Calls y = new Calls();
        y.all(calls);
        return y;
    }

    private void findWhatIsNotTold() {
        place = "src/test/boundaries";
        sentence = "all of it";
        int from = doc.indexOf("## Terms") + "## Terms".length();
        int to = doc.indexOf("## Promise 1:");
        StringBuilder missing = new StringBuilder();
        for (int i = from; i < to; i++) {
            if (!told[i] && Character.isLetterOrDigit(doc.charAt(i))) missing.append(doc.charAt(i));
            else if (missing.length() > 0 && missing.charAt(missing.length() - 1) != ' ') missing.append(' ');
        }
        if (missing.toString().replaceAll("\\b(II|III|IV)\\b", "").strip().length() > 0) wrong("of this nothing is told: " + missing);
        Matcher m = PROMISE.matcher(doc.substring(to));
        int promises = 0;
        while (m.find()) {
            promises++;
            if (!told[to + m.start()]) wrong("nothing is told of promise " + m.group(1));
            findRefusalsNotTold(m.group(4), m.group(5));
        }
        if (promises != 47) wrong(promises + " promises");
    }

    private void findRefusalsNotTold(String name, String text) {
        if (name.equals("count")) return;
        // In best() "-1" is a value of i.
        Matcher m = Pattern.compile("(?<!i |below )-([1-6])(?!\\d)").matcher(text);
        while (m.find()) if (!refused.contains(name + " " + m.group())) wrong(name + "() is never refused by " + m.group());
    }
}
