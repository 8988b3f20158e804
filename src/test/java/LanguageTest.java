import java.io.IOException;
import java.lang.reflect.Constructor;
import java.lang.reflect.Field;
import java.lang.reflect.Method;
import java.lang.reflect.Modifier;
import java.nio.file.Files;
import java.nio.file.Path;
import java.util.ArrayList;
import java.util.Arrays;
import java.util.HashSet;
import java.util.List;
import java.util.Set;
import java.util.TreeSet;
import java.util.regex.Matcher;
import java.util.regex.Pattern;

/** The rules of ../shared/LANGUAGE.md that can be read off the file and the class. Runs at the project's root. */
public final class LanguageTest {
    private static final String[] FACE = {"int cell(int,int)", "int road(int,int,int)", "int unit(int,int)",
        "int move(int,int)", "int where(int,int)", "int still(int,int)", "int weather(int,int)", "int purse(int,int)",
        "int story(int,int)", "int show(int,int,int)", "int as(int,int)", "int of(int,int)", "int stand(int,boolean)",
        "int hands(int,int)", "int mend(int)", "int flight(int,int,int)", "int listen(int)", "int tell(int)",
        "int prisoner(int,boolean)", "int film(int,int)", "int report(int,int)", "int strike(int)", "int fade(int)",
        "long weight(int)", "long likely(int,boolean)", "int likeliest(int)", "int counted(int)", "int troops(int)",
        "int shift()", "int held(int)", "int feed(int,int)", "int text(int,int)", "int wipe()", "int drop(int)",
        "int must(int)", "int may(int)", "int why(int)", "int agree(int,int)", "int slip(int)", "int carry(int)",
        "int plan(int,int,int,int)", "long judge(int,int,boolean)", "int last(int,int)", "int tick(int)",
        "int book(int,int)", "int check(int,int)", "int known(int)", "int sheet(int,int,int)", "int write(int,int,int)",
        "int read(int,int)", "int copy(int,int,int,int,int)", "int image()", "int undo()", "int tear()",
        "int count(int)", "int status(int)"};
    private static final String[] BARRED = {"\\bthrow\\b", "\\bthrows\\b", "\\btry\\b", "\\bcatch\\b",
        "\\bsynchronized\\b", "\\bassert\\b", "->", "::", "\\bvar\\b", "Exact\\b", "\"\\s*\\+", "\\+\\s*\"",
        "\\bSystem\\.(?!arraycopy)", "\\bMath\\.random\\b", "\\bObject\\b", "\\bThread\\b", "\\bpackage\\b",
        "\\bvolatile\\b", "\\btransient\\b", "\\bnative\\b", "\\bString\\s*\\[", "\\bMap\\b", "\\bSet\\b"};

    private static int wrong = 0;

    private static void ask(boolean isRight, String told) {
        if (isRight) return;
        wrong++;
        System.out.println(told);
    }

    public static void main(String[] args) throws IOException {
        String text = Files.readString(Path.of("src/main/java/GhostCoast.java"));
        face();
        classes();
        words(withoutComments(text));
        lengths(withoutComments(text));
        System.out.println(wrong == 0 ? "the rules are kept" : wrong + " rules are not kept");
        if (wrong != 0) System.exit(1);
    }

    private static String told(Method m) {
        StringBuilder all = new StringBuilder(m.getReturnType().getName()).append(' ').append(m.getName()).append('(');
        String comma = "";
        for (Class<?> type : m.getParameterTypes()) {
            all.append(comma).append(type.getName());
            comma = ",";
        }
        return all.append(')').toString();
    }

    private static void face() {
        Set<String> open = new TreeSet<>();
        for (Method m : GhostCoast.class.getDeclaredMethods()) {
            if (m.isSynthetic() || Modifier.isPrivate(m.getModifiers())) continue;
            open.add(told(m));
            ask(Modifier.isPublic(m.getModifiers()), m + " is neither public nor private");
        }
        ask(open.equals(new TreeSet<>(Arrays.asList(FACE))), "the face is another: " + open);
        Constructor<?>[] constructors = GhostCoast.class.getDeclaredConstructors();
        ask(constructors.length == 1 && Modifier.isPublic(constructors[0].getModifiers())
            && constructors[0].getParameterCount() == 0, "the constructor is another");
        ask(Modifier.isFinal(GhostCoast.class.getModifiers()), "the class is not final");
        for (Field f : GhostCoast.class.getDeclaredFields()) {
            ask(Modifier.isPrivate(f.getModifiers()), f + " is not private");
        }
    }

    private static void classes() {
        Set<String> names = new HashSet<>();
        for (String m : FACE) names.add(m.substring(m.indexOf(' ') + 1, m.indexOf('(')));
        List<Class<?>> all = new ArrayList<>(List.of(GhostCoast.class));
        all.addAll(Arrays.asList(GhostCoast.class.getDeclaredClasses()));
        ask(all.size() <= 12, "more than 12 classes");
        for (Class<?> c : all) {
            boolean isFace = c == GhostCoast.class;
            ask(isFace || Modifier.isStatic(c.getModifiers()) && !Modifier.isPublic(c.getModifiers()), c + " is open");
            ask(c.getDeclaredClasses().length == 0 || isFace, c + " has classes inside");
            int fields = 0;
            for (Field f : c.getDeclaredFields()) {
                if (f.isSynthetic()) continue;
                if (!Modifier.isStatic(f.getModifiers())) fields++;
                else ask(Modifier.isFinal(f.getModifiers()), f + " is static and not final");
            }
            ask(fields <= 20, c + " has " + fields + " fields");
            for (Method m : c.getDeclaredMethods()) {
                ask(m.getParameterCount() <= 7, m + " takes more than 7");
                ask(isFace && Modifier.isPublic(m.getModifiers()) || m.isSynthetic() || !names.contains(m.getName()),
                    m + " bears the name of a public one");
            }
        }
    }

    private static String withoutComments(String text) {
        return text.replaceAll("(?s)/\\*.*?\\*/", "").replaceAll("//[^\n]*", "");
    }

    private static void words(String code) {
        for (String barred : BARRED) {
            Matcher m = Pattern.compile(barred).matcher(code);
            ask(!m.find(), "the file has " + barred);
        }
        Matcher imports = Pattern.compile("(?m)^import (.*);").matcher(code);
        while (imports.find()) {
            String name = imports.group(1);
            ask(List.of("java.util.Arrays", "java.util.ArrayList", "java.util.List").contains(name), "imports " + name);
        }
        for (char c : code.toCharArray()) ask(c < 128, "a sign above 127");
    }

    /** No method is longer than sixty lines. */
    private static void lengths(String code) {
        int start = 0;
        String[] lines = code.split("\n");
        for (int i = 0; i < lines.length; i++) {
            if (lines[i].matches(" {4}( {4})?[\\w\\[\\]<> ]+\\([^;=]*\\) \\{")) start = i;
            if (lines[i].matches(" {4}( {4})?\\}")) ask(i - start < 60, "longer than sixty lines: " + lines[start]);
            if (lines[i].matches(".*\\b(class|enum|interface|record)\\b.*\\{")) start = i + 1000000;
        }
    }
}
