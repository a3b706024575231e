import java.lang.reflect.Constructor;
import java.lang.reflect.Field;
import java.lang.reflect.Member;
import java.lang.reflect.Method;
import java.lang.reflect.Modifier;
import java.nio.file.Files;
import java.nio.file.Path;
import java.util.ArrayList;
import java.util.List;
import java.util.TreeSet;
import java.util.regex.Matcher;
import java.util.regex.Pattern;

/** The face, just as the document has it, and those rules of LANGUAGE.md that can be seen from the source. */
public final class LanguageTest {
    private static final String[] FACE = {
        "int feed(int,int,int,int,int)", "int end(int)", "int text(int,int)", "int fault(int)", "int town(int,int)",
        "int deed(int,int,int)", "int till(int,int)", "int state(int,int,int,int)", "int court(int,int,boolean)",
        "int rota(int,boolean)", "int net(int,int)", "int settled(int)", "int ruin(int,int)", "int borrow(int,int,int,int)",
        "int lenders(int,int)", "int choice(int,int,boolean)", "long talk(int,int,int,int,boolean)", "int fact(int,int,int)",
        "int fits(int,int,int)", "int drawn(int,int,int,int)", "int ring(int,int)", "int chain(int,int)", "int wealth(int,int)",
        "int relief(int,int)", "int party(int,int,boolean)", "int tables(int,int)", "int hour(int,int)", "int grown(int,int,int)",
        "long meet(int,boolean,boolean)", "long guest(int,int,boolean)", "int after(int,int,int)",
        "long share(int,int,int,int,boolean)", "int fewest(int,int,boolean)", "int count(int)", "boolean image(int)",
        "boolean again(int)"};
    private static final String[] FORBIDDEN = {"\\bthrow\\b", "\\btry\\b", "\\bcatch\\b", "\\bsynchronized\\b", "\\bassert\\b",
        "->", "::", "\\bpackage\\b", "\\bthrows\\b", "Exact\\b", "\\bprotected\\b", "\\bvar\\b", "MAX_VALUE", "MIN_VALUE",
        "\\bfinally\\b", "\\bRandom\\b", "\\bSystem\\.(?!arraycopy)", "\\bequals\\b", "\\bhashCode\\b", "\\btoString\\b"};

    public static void main(String[] args) throws Exception {
        face();
        classes();
        source(Files.readString(Path.of("src/main/java/KeptCompany.java")));
        Check.finish("LanguageTest");
    }

    private static void face() throws Exception {
        TreeSet<String> want = new TreeSet<>(List.of(FACE));
        TreeSet<String> got = new TreeSet<>();
        for (Method m : KeptCompany.class.getDeclaredMethods()) {
            if (!Modifier.isPrivate(m.getModifiers())) {
                got.add(signature(m));
                Check.due(m + " is public alone", m.getModifiers(), Modifier.PUBLIC);
            }
        }
        Check.due("face " + got, got.equals(want), true);
        for (Field f : KeptCompany.class.getDeclaredFields()) {
            boolean none = f.getName().equals("NONE");
            Check.due("field " + f, Modifier.isPrivate(f.getModifiers()), !none);
        }
        Field none = KeptCompany.class.getField("NONE");
        Check.due("NONE", none.getModifiers(), Modifier.PUBLIC | Modifier.STATIC | Modifier.FINAL);
        Check.due("NONE", none.getInt(null), -1);
        Constructor<?>[] made = KeptCompany.class.getDeclaredConstructors();
        Check.due("constructors", made.length, 1);
        Check.due("constructor", made[0].getModifiers(), Modifier.PUBLIC);
        Check.due("its parameters", made[0].getParameterCount(), 0);
        Check.due("the class", KeptCompany.class.getModifiers(), Modifier.PUBLIC | Modifier.FINAL);
    }

    private static String signature(Method m) {
        List<String> types = new ArrayList<>();
        for (Class<?> type : m.getParameterTypes()) {
            types.add(type.getName());
        }
        return m.getReturnType().getName() + " " + m.getName() + "(" + String.join(",", types) + ")";
    }

    private static void classes() {
        TreeSet<String> names = new TreeSet<>();
        for (String one : FACE) {
            names.add(one.substring(one.indexOf(' ') + 1, one.indexOf('(')));
        }
        Class<?>[] inside = KeptCompany.class.getDeclaredClasses();
        Check.due("classes", inside.length <= 12, true);
        for (Class<?> one : inside) {
            Check.due(one + " is static", Modifier.isStatic(one.getModifiers()), true);
            int fields = 0;
            for (Field f : one.getDeclaredFields()) {
                fields += Modifier.isStatic(f.getModifiers()) ? 0 : 1;
                staticIsFinal(f);
            }
            Check.due(one + " has few fields", fields <= 20, true);
            for (Method m : one.getDeclaredMethods()) {
                Check.due(m + " bears no name of the face", names.contains(m.getName()), false);
                Check.due(m + " takes few parameters", m.getParameterCount() <= 7, true);
            }
        }
        for (Field f : KeptCompany.class.getDeclaredFields()) {
            staticIsFinal(f);
        }
    }

    private static void staticIsFinal(Member f) {
        boolean loose = Modifier.isStatic(f.getModifiers()) && !Modifier.isFinal(f.getModifiers());
        Check.due(f + " is no loose static", loose, false);
    }

    private static void source(String source) {
        String bare = source.replaceAll("(?s)/\\*.*?\\*/", "").replaceAll("//[^\n]*", "").replaceAll("\"[^\"\n]*\"", "\"\"");
        for (String word : FORBIDDEN) {
            Matcher found = Pattern.compile(word).matcher(bare);
            Check.due("source has " + word, found.find(), false);
        }
        Matcher imports = Pattern.compile("import ([^;]+);").matcher(bare);
        while (imports.find()) {
            Check.due("import " + imports.group(1), imports.group(1).equals("java.util.Arrays"), true);
        }
        Check.due("signs", source.chars().allMatch(c -> c == 10 || c >= 32 && c < 127), true);
        methodsAreShort(source);
    }

    /** A method begins with a line that ends in '{' behind ')' at the depth of members, and ends with its '}'. */
    private static void methodsAreShort(String source) {
        String[] lines = source.split("\n");
        for (int i = 0; i < lines.length; i++) {
            Matcher head = Pattern.compile("^(    |        )(?! )[A-Za-z].*\\) \\{$").matcher(lines[i]);
            if (head.find()) {
                int end = i;
                while (!lines[end].equals(head.group(1) + "}")) {
                    end++;
                }
                Check.due("lines of " + lines[i].trim(), end - i <= 60, true);
            }
        }
    }
}
