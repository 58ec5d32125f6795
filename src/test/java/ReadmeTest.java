import java.lang.reflect.Method;
import java.lang.reflect.Modifier;
import java.nio.charset.StandardCharsets;
import java.nio.file.Files;
import java.nio.file.Path;
import java.util.List;
import java.util.TreeSet;
import java.util.regex.Matcher;
import java.util.regex.Pattern;
import java.util.stream.Collectors;
import java.util.stream.Stream;

/** What README.md says of the class: its examples, the lines of a text, the calls, the tests. */
public final class ReadmeTest {
    private static final Check CHECK = new Check("ReadmeTest");
    private static final String FLOE = "floe wide 6 deep 4 people 4 days 10;";

    public static void main(String[] args) throws Exception {
        String readme = Files.readString(Path.of("README.md"), StandardCharsets.UTF_8);
        examples();
        examplesStandHere(readme);
        lines(readme);
        calls(readme);
        answers(readme);
        tests(readme);
        CHECK.finish();
    }

    static void tell(PencilLine line, String text) {
        line.end(0);
        for (int i = 0; i < text.length(); i += 20) {
            line.feed(four(text, i), four(text, i + 4), four(text, i + 8), four(text, i + 12),
                    four(text, i + 16));
        }
        line.end(text.length());
    }

    static int four(String text, int from) {
        int four = 0;
        for (int i = from; i < from + 4; i++) {
            four = four << 8 | (i < text.length() ? text.charAt(i) & 255 : 0);
        }
        return four;
    }

    private static void examples() {
        PencilLine line = new PencilLine();
        tell(line, "floe wide 6 deep 4 people 4 days 10;"
                + "crack down 3 odds 100 swell 5 warm 10 weight 50;"
                + "sort food gives 10 tons 2 many 4;");
        int lines = line.floe();            // 3
        int was = line.heap(0, 4, 1);       // 0: no heap was there ahead of it
        int free = line.put(0, 0, 4);       // 0 of the food are in no heap
        int pieces = line.pieces(1);        // 2, when crack 0 is open
        int enough = line.enough(1);        // 0: all four sleep on the other piece
        long lost = line.lost(12);          // 113615128282 of 1000000000000 parts
        int moves = line.betters(5);        // 1: the heap is moved over the crack
        int column = line.lies(0, 0);       // 0
        long safer = line.lost(12);         // 0
        long[] told = {lines, was, free, pieces, enough, lost, moves, column, safer};
        long[] due = {3, 0, 0, 2, 0, 113615128282L, 1, 0, 0};
        for (int i = 0; i < due.length; i++) {
            CHECK.due("README's example, answer " + i, told[i], due[i]);
        }
        tell(line, "floe wide 13 deep 4 people 4 days 10;");
        int refused = line.floe();          // -4
        int fault = line.fault(0);          // 2: a number out of its bounds
        int place = line.fault(1);          // 10: so many bytes stand ahead of it
        CHECK.due("README's fault", refused, -4);
        CHECK.due("README's fault tells which", fault, 2);
        CHECK.due("README's fault tells where", place, 10);
        CHECK.due("the floe that was there stays", line.count(9), 3);
    }

    /** Each line of README's Java stands in this file, in the same order: so it compiles and was run. */
    private static void examplesStandHere(String readme) throws Exception {
        List<String> here = Files.readAllLines(Path.of("src/test/java/ReadmeTest.java"));
        Matcher block = Pattern.compile("(?s)```java\n(.*?)```").matcher(readme);
        int at = 0;
        int found = 0;
        while (block.find()) {
            for (String line : block.group(1).split("\n")) {
                while (at < here.size() && !here.get(at).strip().equals(line.strip())) {
                    at++;
                }
                CHECK.holds("in ReadmeTest: " + line, at < here.size());
                found++;
            }
        }
        CHECK.holds("README has examples", found > 20);
    }

    /** Each line of the table is read so often as it says, and not once more. */
    private static void lines(String readme) {
        Matcher row = Pattern.compile("(?m)^\\| `([a-z0-9 ]+;)` \\| (\\d) \\|").matcher(readme);
        int rows = 0;
        while (row.find()) {
            int most = Integer.parseInt(row.group(2));
            String line = row.group(1);
            String ahead = line.equals(FLOE) ? "" : FLOE;
            String text = ahead + line.repeat(most);
            CHECK.due("README's " + line, Check.floe(new PencilLine(), text), most + (ahead.isEmpty() ? 0 : 1));
            CHECK.due("once more " + line, Check.floe(new PencilLine(), text + line), -4);
            rows++;
        }
        CHECK.due("ten kinds of lines in README", rows, 10);
    }

    private static void calls(String readme) {
        String table = readme.substring(readme.indexOf("| calls | promises |"), readme.indexOf("## Answers"));
        TreeSet<String> named = new TreeSet<>();
        Matcher name = Pattern.compile("`([a-z]+)`").matcher(table);
        while (name.find()) {
            CHECK.holds("named once in README: " + name.group(1), named.add(name.group(1)));
        }
        TreeSet<String> face = new TreeSet<>();
        for (Method m : PencilLine.class.getDeclaredMethods()) {
            if (Modifier.isPublic(m.getModifiers())) {
                face.add(m.getName());
            }
        }
        CHECK.holds("README names the calls of the face: " + named, named.equals(face));
    }

    private static void answers(String readme) {
        for (int answer = -1; answer >= -8; answer--) {
            CHECK.holds("README tells what " + answer + " means",
                    Pattern.compile("(?m)^\\| " + answer + "[ ,]").matcher(readme).find());
        }
    }

    private static void tests(String readme) throws Exception {
        try (Stream<Path> files = Files.list(Path.of("src/test/java"))) {
            for (String name : files.map(f -> f.getFileName().toString()).collect(Collectors.toList())) {
                if (name.endsWith("Test.java")) {
                    String row = "| `" + name.substring(0, name.length() - 5) + "` |";
                    CHECK.holds("README tells of " + name, readme.contains(row));
                }
            }
        }
    }
}
