import java.lang.reflect.Constructor;
import java.lang.reflect.Field;
import java.lang.reflect.Method;
import java.lang.reflect.Modifier;
import java.nio.charset.StandardCharsets;
import java.nio.file.Files;
import java.nio.file.Path;
import java.util.Map;
import java.util.TreeMap;
import java.util.regex.Matcher;
import java.util.regex.Pattern;

/** The rules of LANGUAGE.md that can be seen from the source or from the class. */
public final class LanguageTest {
    private static final Check CHECK = new Check("LanguageTest");
    private static final String FACE = "feed(int,int,int,int,int)int end(int)int floe()int fault(int)int "
            + "heap(int,int,int)int put(int,int,int)int sleep(int,int,int,int)int open(int)int lies(int,int)int "
            + "near(int)int odds(int)int piece(int,int,int)int pieces(int)int part(int)long with(int,boolean)long "
            + "enough(int)int lacks(int,int)int lost(int)long safe(int)int judge(int)int lay(int)int "
            + "trial(int)long best()int betters(int)int gap()long heaps()int where(int)int watch(int)long "
            + "watches(int)int alive(int,int,int)long go(int,int,int)int leave()int least(int,int,int)int "
            + "load(int,int,int)int lasts(int,int)int across(int,int,int)int minutes(int,int,int,int)int "
            + "fetch(int,int)int fetched(int,int,int,int)int thin(int,int)int apart(int,int)int "
            + "miles(int,int)long boats(int,int)int saw(int)int pass(int)int seam(int)int run(int,int)int "
            + "struck()int springs(int,int,int)int count(int)int keep(int)int back(int)int row(int,int,int)int "
            + "write(int,int,long)int paste(int,int,int,int,int)int";

    public static void main(String[] args) throws Exception {
        face();
        source();
        CHECK.finish();
    }

    private static void face() {
        Map<String, Integer> due = new TreeMap<>();
        for (String method : FACE.split(" ")) {
            due.put(method, 1);
        }
        CHECK.due("55 methods in the face", due.size(), 55);
        CHECK.holds("final", Modifier.isFinal(PencilLine.class.getModifiers()));
        for (Method m : PencilLine.class.getDeclaredMethods()) {
            if (m.isSynthetic()) {
                continue;
            }
            StringBuilder told = new StringBuilder(m.getName()).append("(");
            for (Class<?> type : m.getParameterTypes()) {
                told.append(told.charAt(told.length() - 1) == '(' ? "" : ",").append(type);
            }
            told.append(")").append(m.getReturnType());
            boolean isPublic = Modifier.isPublic(m.getModifiers());
            CHECK.holds("public or private: " + told, isPublic || Modifier.isPrivate(m.getModifiers()));
            CHECK.holds("in the face: " + told, isPublic == due.containsKey(told.toString()));
            due.remove(told.toString());
        }
        CHECK.due("all of the face is there, but " + due, due.size(), 0);
        for (Field f : PencilLine.class.getDeclaredFields()) {
            CHECK.holds("field " + f, Modifier.isPrivate(f.getModifiers()) != f.getName().equals("NONE"));
            constant(f);
        }
        Constructor<?>[] constructors = PencilLine.class.getDeclaredConstructors();
        CHECK.due("constructors", constructors.length, 1);
        CHECK.due("none of private methods inside bears a public name", publicNamesInside(), 0);
        CHECK.holds("at most twelve classes", PencilLine.class.getDeclaredClasses().length < 12);
        for (Class<?> inside : PencilLine.class.getDeclaredClasses()) {
            CHECK.holds("static: " + inside, Modifier.isStatic(inside.getModifiers()));
            int fields = 0;
            for (Field f : inside.getDeclaredFields()) {
                fields += Modifier.isStatic(f.getModifiers()) ? 0 : 1;
                constant(f);
            }
            CHECK.holds("some twenty fields: " + inside, fields <= 20);
        }
    }

    private static void constant(Field f) {
        boolean isConstant = Modifier.isFinal(f.getModifiers())
                && (f.getType() == int.class || f.getType() == long.class || f.getType() == String.class);
        CHECK.holds("constant " + f, !Modifier.isStatic(f.getModifiers()) || isConstant);
    }

    private static int publicNamesInside() {
        int found = 0;
        for (Class<?> inside : PencilLine.class.getDeclaredClasses()) {
            for (Method m : inside.getDeclaredMethods()) {
                if ((" " + FACE).contains(" " + m.getName() + "(")) {
                    System.out.println(m);
                    found++;
                }
            }
        }
        return found;
    }

    private static void source() throws Exception {
        String text = Files.readString(Path.of("src/main/java/PencilLine.java"), StandardCharsets.ISO_8859_1);
        String code = text.replaceAll("(?s)/\\*.*?\\*/", "").replaceAll("//[^\n]*", "");
        String[] never = {"throw", "try", "catch", "synchronized", "assert", "import", "package", "instanceof",
            "double", "float", "new Object", "super", "protected", "volatile", "native", "var", "yield", "record"};
        for (String word : never) {
            CHECK.holds("no " + word, !Pattern.compile("\\b" + word + "\\b").matcher(code).find());
        }
        for (String sign : new String[] {"->", "::", "\" +", "+ \"", "@", "Exact(", "System.out", "..."}) {
            CHECK.holds("no " + sign, !code.contains(sign));
        }
        Matcher library = Pattern.compile("\\b(Math|Integer|Long|System|Arrays|String)\\.(\\w+)").matcher(code);
        while (library.find()) {
            CHECK.holds("library " + library.group(),
                    library.group().matches("Math\\.(min|max|abs)|Integer\\.bitCount|System\\.arraycopy"));
        }
        for (char sign : text.toCharArray()) {
            if (sign > 126) {
                CHECK.due("a sign in the source", sign, 0);
            }
        }
        lengths(code);
    }

    private static void lengths(String code) {
        String[] lines = code.split("\n");
        int start = 0;
        for (int i = 0; i < lines.length; i++) {
            if (lines[i].matches("( {4}| {8})[\\w\\[\\], ]+\\(.*\\{")) {
                start = i;
                int commas = lines[i].replaceAll("[^,]", "").length();
                CHECK.holds("seven parameters: " + lines[i], commas < 7);
            }
            if (lines[i].matches("( {4}| {8})\\}")) {
                CHECK.holds("sixty lines: " + lines[start], i - start <= 60 || lines[start].contains("class"));
            }
        }
    }
}
