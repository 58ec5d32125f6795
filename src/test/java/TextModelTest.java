import java.math.BigInteger;
import java.util.ArrayList;
import java.util.HashSet;
import java.util.List;
import java.util.Random;
import java.util.Set;
import java.util.regex.Matcher;
import java.util.regex.Pattern;

/**
 * Texts by chance, most of them with a fault, asked of the program and of the document's grammar written down
 * as patterns of lines (promises 4 and 5): lines, fault and place.
 */
public final class TextModelTest {
    private static final Check CHECK = new Check("TextModelTest");
    /** A word stands for itself, a..b for a number, / for or, ? for what may be left out. */
    private static final String[] LINES = {
        "floe wide 2..12 deep 2..12 people 1..28 days 1..60 ;",
        "crack down/along WAY odds 0..500 swell 0..99 warm 0..99 weight 0..99 ?old ;",
        "sort food/beds/seats/heat gives 1..99 tons 1..99 many 0..20 ;", "sea swell 0..9 warm 0..9 ;", "shuts 0..100 ;",
        "fetch 0..60 across 0..60 ;", "sees 0..100 ;", "drift 0..100 land 0..60 ;", "breaks 0..9999 crossing 0..9999 ;",
        "other day 1..60 odds 0..100 breaks 0..9999 ;"};
    private static final int[] MOST = {1, 7, 6, 1, 1, 1, 1, 1, 1, 4};
    private static final String[] STRANGE = {"floe", "old", "down", "along", "food", "heat", "sea", "swell", "n", ";", "0",
        "1", "9", "10", "11", "12", "13", "28", "29", "60", "61", "99", "100", "101", "500", "501", "9999", "10000", "00",
        "4294967297", "18446744073709551617", "99999999999999999999999999", "#", "A", "-1", "\t", "\r", "\u0000", "\u00e9",
        "1x", "x1", "sees", "other", "sort", "crack"};

    private int fault;
    private int place;
    private int lines;

    public static void main(String[] args) {
        int[] kinds = new int[4];
        for (int seed = 0; seed < 6000; seed++) {
            Random random = new Random(seed);
            String text = any(random);
            TextModelTest due = new TextModelTest();
            due.read(text);
            kinds[due.fault]++;
            PencilLine x = new PencilLine();
            CHECK.due(seed + " floe " + text, Check.floe(x, text), due.fault > 0 ? -4 : due.lines);
            CHECK.due(seed + " fault " + text, x.fault(0), due.fault);
            CHECK.due(seed + " place " + text, x.fault(1), due.place);
            CHECK.due(seed + " lines", x.count(9), due.fault > 0 ? 0 : due.lines);
            CHECK.due(seed + " the tape is empty", x.count(10), 0);
        }
        for (int kind : kinds) {
            CHECK.holds("each fault and none is met, not " + kind + " times", kind > 100);
        }
        CHECK.finish();
    }

    // ---- the grammar ----

    private void read(String text) {
        List<String> tokens = new ArrayList<>();
        List<Integer> places = new ArrayList<>();
        Matcher m = Pattern.compile("[a-z]+|[0-9]+|[^ \n]").matcher(text);
        while (m.find()) {
            tokens.add(m.group());
            places.add(m.start());
        }
        int end = tokens.size();
        tokens.add("");
        places.add(text.length());
        place = -1;
        int[] told = new int[LINES.length];
        int[] sides = new int[2];
        int at = 0;
        while (at < end && fault == 0) {
            at = readLine(tokens, at, told, sides);
        }
        if (fault > 0) {
            place = places.get(at);
        }
    }

    /** Reads a line; answers where the next begins, or the token of the fault. */
    private int readLine(List<String> tokens, int from, int[] told, int[] sides) {
        int kind = lineOf(tokens.get(from));
        if (kind < 0 || (kind == 0) != (lines == 0)) {
            fault = 1;
            return from;
        }
        told[kind]++;
        if (told[kind] > MOST[kind]) {
            fault = MOST[kind] == 1 ? 2 : 3;
            return from;
        }
        int at = from + 1;
        String[] parts = LINES[kind].split(" ");
        for (int i = 1; i < parts.length; i++) {
            String token = tokens.get(at);
            if (parts[i].startsWith("?") && !token.equals(parts[i].substring(1))) {
                continue;
            }
            String part = parts[i].equals("WAY")
                    ? "1.." + (sides[tokens.get(at - 1).equals("down") ? 0 : 1] - 1) : parts[i];
            fault = faultOf(part, token);
            if (fault > 0) {
                return at;
            }
            if (kind == 0 && i == 2 || kind == 0 && i == 4) {
                sides[i / 2 - 1] = Integer.parseInt(token);
            }
            at++;
        }
        lines++;
        return at;
    }

    private static int lineOf(String word) {
        for (int kind = 0; kind < LINES.length; kind++) {
            if (LINES[kind].startsWith(word + " ")) {
                return kind;
            }
        }
        return -1;
    }

    private static int faultOf(String part, String token) {
        if (!part.contains("..")) {
            return List.of(part.replace("?", "").split("/")).contains(token) ? 0 : 1;
        }
        if (!token.matches("[0-9]+")) {
            return 1;
        }
        String[] bounds = part.split("\\.\\.");
        BigInteger number = new BigInteger(token);
        return number.compareTo(new BigInteger(bounds[0])) < 0 || number.compareTo(new BigInteger(bounds[1])) > 0 ? 2 : 0;
    }

    // ---- texts by chance ----

    private static String any(Random random) {
        List<String> tokens = new ArrayList<>(List.of(bounded(random, 0).split(" ")));
        Set<Integer> once = new HashSet<>();
        int lines = random.nextInt(random.nextInt(3) == 0 ? 30 : 6);
        for (int i = 0; i < lines; i++) {
            int kind = random.nextInt(3) > 0 ? new int[] {1, 2, 9}[random.nextInt(3)] : 1 + random.nextInt(9);
            if (kind < 3 || kind == 9 || random.nextInt(9) == 0 || once.add(kind)) {
                tokens.addAll(List.of(bounded(random, kind).split(" ")));
            }
        }
        for (int i = random.nextInt(3); i > 0 && !tokens.isEmpty(); i--) {
            change(random, tokens);
        }
        StringBuilder text = new StringBuilder();
        for (String token : tokens) {
            text.append(blanks(random, text, token)).append(token);
        }
        text.append(" ".repeat(random.nextInt(3) / 2));
        return text.length() > 1600 ? text.substring(0, 1600) : text.toString();
    }

    private static String bounded(Random random, int kind) {
        StringBuilder line = new StringBuilder();
        for (String part : LINES[kind].replace("WAY", "1..3").split(" ")) {
            if (part.startsWith("?")) {
                line.append(random.nextBoolean() ? part.substring(1) + " " : "");
            } else if (part.contains("..")) {
                String[] bounds = part.split("\\.\\.");
                int least = Integer.parseInt(bounds[0]);
                int most = Integer.parseInt(bounds[1]);
                int way = random.nextInt(4);
                line.append(way == 0 ? least : way == 1 ? most : least + random.nextInt(most - least + 1)).append(" ");
            } else {
                String[] words = part.split("/");
                line.append(words[random.nextInt(words.length)]).append(" ");
            }
        }
        return line.toString().strip();
    }

    private static void change(Random random, List<String> tokens) {
        int at = random.nextInt(tokens.size());
        switch (random.nextInt(6)) {
            case 0: tokens.remove(at); break;
            case 1: tokens.add(at, tokens.get(at)); break;
            case 2: tokens.set(at, STRANGE[random.nextInt(STRANGE.length)]); break;
            case 3: tokens.add(at, STRANGE[random.nextInt(STRANGE.length)]); break;
            case 4: tokens.set(at, tokens.get(random.nextInt(tokens.size()))); break;
            default: tokens.subList(at, tokens.size()).clear(); break;
        }
    }

    /** One blank at least between two words, or two numbers, mostly; else any, or none. */
    private static String blanks(Random random, StringBuilder text, String token) {
        int way = random.nextInt(12);
        if (way == 0) {
            return " \n ".repeat(1 + random.nextInt(2));
        }
        char last = text.length() == 0 ? ';' : text.charAt(text.length() - 1);
        boolean apart = last == ';' || token.equals(";") || Character.isDigit(last) != Character.isDigit(token.charAt(0));
        return way < 4 && (apart || random.nextInt(60) == 0) ? "" : way == 4 ? "\n" : " ";
    }
}
