import java.io.IOException;
import java.lang.reflect.Constructor;
import java.lang.reflect.Field;
import java.lang.reflect.Method;
import java.lang.reflect.Modifier;
import java.nio.file.Files;
import java.nio.file.Path;
import java.util.ArrayList;
import java.util.Arrays;
import java.util.List;
import java.util.Set;
import java.util.TreeSet;
import java.util.regex.Matcher;
import java.util.regex.Pattern;
import java.util.stream.Collectors;

/** The public face of the document, and those rules of ../shared/LANGUAGE.md that a test can look at. */
public final class LanguageTest {
    private static final Path SOURCE = Path.of("src/main/java/BidMarket.java");
    private static final String[] FACE = {
        "int size(int)", "int worth(int,int,int)", "int step(int)", "int feed(int)", "int read()",
        "long of(int,int,int)", "int person(int,int)", "int thing(int,int)", "int bid()", "int auction()",
        "int scaled()", "int fresh()", "int leave(int)", "int told(int)", "int wrong(int)", "int see(int,int)",
        "int fits(int,int,int)", "long odds(int,int)", "long mean(int)", "int plan(int,int)", "int ends(int)",
        "int book(int,int)", "int looked()", "int judge(int,int)", "int image()", "int undo()", "int count(int)",
        "int tape(int,int,int)", "int item(int,int,long)", "long peek(int,int)", "int shift(int,int,int,int,int)"};
    private static final String[] CONSTANTS = {"int BAD", "int FULL", "int NONE", "int STATE", "long NO"};
    private static final String[] SECTIONS = {"worths", "the market", "seen, odds", "plans, books",
        "judging, the image, tapes"};
    private static final Check CHECK = new Check();

    public static void main(String[] args) throws IOException {
        String source = Files.readString(SOURCE);
        String code = withoutTexts(source);
        face();
        sections(source);
        members();
        words(code);
        library(code);
        methodLengths(code);
        new CallDepth(code).hold(CHECK, 8);
        CHECK.finish();
    }

    private static List<Class<?>> classes() {
        List<Class<?>> all = new ArrayList<>(Arrays.asList(BidMarket.class.getDeclaredClasses()));
        all.add(BidMarket.class);
        return all;
    }

    private static void face() {
        CHECK.holds("public and final", BidMarket.class.getModifiers() == (Modifier.PUBLIC | Modifier.FINAL));
        Set<String> methods = new TreeSet<>();
        for (Method m : BidMarket.class.getDeclaredMethods()) {
            if (!Modifier.isPrivate(m.getModifiers())) {
                CHECK.holds(m + " is public, not static", m.getModifiers() == Modifier.PUBLIC);
                methods.add(m.getReturnType() + " " + m.getName() + "(" + Arrays.stream(m.getParameterTypes())
                        .map(Class::getName).collect(Collectors.joining(",")) + ")");
            }
        }
        CHECK.holds("the methods of the face: " + methods, methods.equals(new TreeSet<>(Arrays.asList(FACE))));
        Set<String> constants = new TreeSet<>();
        for (Field f : BidMarket.class.getDeclaredFields()) {
            if (!Modifier.isPrivate(f.getModifiers())) {
                CHECK.holds(f + " is public static final",
                        f.getModifiers() == (Modifier.PUBLIC | Modifier.STATIC | Modifier.FINAL));
                constants.add(f.getType() + " " + f.getName());
            }
        }
        CHECK.holds("the constants: " + constants, constants.equals(new TreeSet<>(Arrays.asList(CONSTANTS))));
        Constructor<?>[] constructors = BidMarket.class.getDeclaredConstructors();
        CHECK.holds("one constructor, public and without parameters", constructors.length == 1
                && constructors[0].getModifiers() == Modifier.PUBLIC && constructors[0].getParameterCount() == 0);
    }

    private static void sections(String source) {
        int last = -1;
        for (String section : SECTIONS) {
            int at = source.indexOf("// ---- " + section + "\n");
            CHECK.holds("the section " + section + " in its order", at > last);
            last = at;
        }
    }

    private static void members() {
        CHECK.holds("twelve classes at most", classes().size() <= 12);
        Set<String> publicNames = Arrays.stream(BidMarket.class.getMethods()).map(Method::getName)
                .collect(Collectors.toSet());
        for (Class<?> c : classes()) {
            if (c != BidMarket.class) {
                CHECK.holds(c + " is static and not public", Modifier.isStatic(c.getModifiers())
                        && !Modifier.isPublic(c.getModifiers()) && !Modifier.isProtected(c.getModifiers()));
                CHECK.holds(c + " has no classes inside", c.getDeclaredClasses().length == 0);
            }
            int fields = 0;
            for (Field f : c.getDeclaredFields()) {
                boolean isStatic = Modifier.isStatic(f.getModifiers());
                CHECK.holds(f + " is final if it is static", !isStatic || Modifier.isFinal(f.getModifiers()));
                fields += isStatic ? 0 : 1;
            }
            CHECK.holds(c + " has twenty fields at most", fields <= 20);
            for (Method m : c.getDeclaredMethods()) {
                CHECK.holds(m + " has seven parameters at most", m.getParameterCount() <= 7);
                CHECK.holds(m + " bears no public name",
                        Modifier.isPublic(m.getModifiers()) || !publicNames.contains(m.getName()));
            }
        }
    }

    private static void words(String code) {
        String[] never = {"throw", "throws", "try", "catch", "finally", "synchronized", "assert", "package", "import",
            "instanceof", "double", "float", "native", "volatile", "transient"};
        for (String word : never) {
            CHECK.holds("the word " + word + " stands in the program",
                    !Pattern.compile("\\b" + word + "\\b").matcher(code).find());
        }
        CHECK.holds("no lambda and no method reference", !code.contains("->") && !code.contains("::"));
        CHECK.holds("signs 1 to 127 alone", code.chars().allMatch(sign -> sign < 128));
        CHECK.holds("no loop without a bound", !code.contains("while (true)") && !code.contains("for (;;)"));
    }

    private static void library(String code) {
        Set<String> allowed = Set.of("Long.MIN_VALUE", "Integer.bitCount", "System.arraycopy", "Math.max", "Math.min");
        Matcher m = Pattern.compile("\\b(Long|Integer|System|Math|Thread|String|StringBuilder|Arrays|Object)\\.\\w+")
                .matcher(code);
        while (m.find()) {
            CHECK.holds(m.group() + " is used", allowed.contains(m.group()));
        }
        Matcher made = Pattern.compile("\\bnew (\\w+)").matcher(code);
        while (made.find()) {
            boolean own = classes().stream().anyMatch(c -> c.getSimpleName().equals(made.group(1)));
            CHECK.holds("new " + made.group(1), own || made.group(1).equals("int") || made.group(1).equals("long"));
        }
    }

    private static void methodLengths(String code) {
        String[] lines = code.split("\n");
        for (int i = 0; i < lines.length; i++) {
            CHECK.holds("line " + (i + 1) + " is short", lines[i].length() <= 120);
            if (lines[i].matches(" +.*\\) \\{") && !lines[i].matches(" +(\\} else )?(if|for|while|switch)\\b.*")) {
                int end = i;
                String close = lines[i].replaceAll("\\S.*", "") + "}";
                while (end < lines.length && !lines[end].equals(close)) {
                    end++;
                }
                CHECK.holds("a method of sixty lines at most at line " + (i + 1), end - i < 60);
            }
        }
    }

    /** The words of a comment or a text are no code. */
    private static String withoutTexts(String source) {
        return source.replaceAll("(?s)/\\*.*?\\*/", "").replaceAll("//[^\n]*", "")
                .replaceAll("\"[^\"\n]*\"", "\"\"").replaceAll("'[^'\n]*'", "' '");
    }
}
