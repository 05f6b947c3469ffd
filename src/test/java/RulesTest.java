import java.io.IOException;
import java.lang.reflect.Constructor;
import java.lang.reflect.Field;
import java.lang.reflect.Method;
import java.lang.reflect.Modifier;
import java.nio.file.Files;
import java.nio.file.Path;
import java.util.ArrayList;
import java.util.List;
import java.util.Set;
import java.util.TreeSet;
import java.util.regex.Matcher;
import java.util.regex.Pattern;

/** The face that the document tells, and those rules of the language that can be seen in the source. */
public final class RulesTest {
    private static final String SOURCE = "src/main/java/LetHorizon.java";
    private static final String[] FACE = {"int state(int)", "boolean sea(int)", "int ship(int,int)", "int pier(int,int)",
        "boolean set(int,int,int)", "int raise(int,int)", "int lift(int)", "int mend(int)", "int hours(int)",
        "int feed(int,int,int,int,int)", "boolean end(int)", "int text(int)", "int fault(int)", "int of(int,int)",
        "int sun(int,int)", "int costs(int,int)", "int shipOf(int,int)", "int pierOf(int,int)", "int book(int,int)",
        "int goes(int,int)", "int meets(int,int)", "int smooth(int)", "int folds()", "int sunset(int,int)",
        "int lifted(int)", "int over(int)", "int watch(int)", "int coils(int,int)", "int moors(int)", "int fee(int,int)",
        "int part(int,int)", "int game(int)", "boolean undo()", "boolean image(boolean)", "int look(int)"};
    private static int wrong = 0;

    private static void fault(String what) {
        wrong++;
        System.out.println(what);
    }

    private static String told(Method m) {
        StringBuilder s = new StringBuilder(m.getReturnType().getSimpleName()).append(' ').append(m.getName()).append('(');
        for (Class<?> p : m.getParameterTypes()) s.append(s.charAt(s.length() - 1) == '(' ? "" : ",").append(p.getSimpleName());
        return s.append(')').toString();
    }

    private static void face() {
        Set<String> due = new TreeSet<>(List.of(FACE));
        Set<String> names = new TreeSet<>();
        Set<String> open = new TreeSet<>();
        for (Method m : LetHorizon.class.getDeclaredMethods()) {
            if (Modifier.isPublic(m.getModifiers())) {
                open.add(told(m));
                names.add(m.getName());
            } else if (!Modifier.isPrivate(m.getModifiers()) && !m.isSynthetic()) {
                fault("rule 1: open to the package: " + m);
            }
        }
        if (!open.equals(due)) fault("rule 1: the face is " + open);
        for (Method m : LetHorizon.class.getDeclaredMethods()) {
            if (!Modifier.isPublic(m.getModifiers()) && names.contains(m.getName())) fault("rule 1: a private method with a public name: " + m);
        }
        for (Field f : LetHorizon.class.getDeclaredFields()) {
            boolean open1 = Modifier.isPublic(f.getModifiers());
            if (open1 ? !f.getName().equals("NONE") : !Modifier.isPrivate(f.getModifiers())) fault("rule 1: " + f);
        }
        Constructor<?>[] made = LetHorizon.class.getDeclaredConstructors();
        if (made.length != 1 || made[0].getParameterCount() != 0 || !Modifier.isPublic(made[0].getModifiers())) {
            fault("rule 1: the constructor");
        }
        if (!Modifier.isFinal(LetHorizon.class.getModifiers())) fault("rule 1: not final");
        int classes = 1;
        for (Class<?> c : LetHorizon.class.getDeclaredClasses()) {
            classes++;
            if (!Modifier.isStatic(c.getModifiers())) fault("rule 2: " + c);
            int fields = 0;
            for (Field f : c.getDeclaredFields()) fields += Modifier.isStatic(f.getModifiers()) ? 0 : 1;
            if (fields > 20) fault("rule 11: fields of " + c);
            for (Method m : c.getDeclaredMethods()) {
                if (names.contains(m.getName())) fault("rule 1: a private method with a public name: " + m);
                if (m.getParameterCount() > 7) fault("rule 11: " + m);
            }
        }
        if (classes > 12) fault("rule 11: " + classes + " classes");
    }

    /** The source without comments and without what stands in quotes. */
    private static String bare(String source) {
        Matcher m = Pattern.compile("/\\*.*?\\*/|//[^\n]*|\"(\\\\.|[^\"\\\\])*\"|'(\\\\.|[^'\\\\])'", Pattern.DOTALL).matcher(source);
        StringBuilder s = new StringBuilder();
        int from = 0;
        while (m.find()) {
            s.append(source, from, m.start());
            s.append(m.group().replaceAll("[^\n]", " "));
            from = m.end();
        }
        return s.append(source.substring(from)).toString();
    }

    private static void words(String source) {
        String[] forbidden = {"\\bthrow\\b", "\\bthrows\\b", "\\btry\\b", "\\bcatch\\b", "\\bsynchronized\\b", "\\bassert\\b",
            "->", "::", "\\bpackage\\b", "\\bimport\\b", "\\bprotected\\b", "\\bhashCode\\b", "\\btoString\\b", "Exact\\b",
            "\\bdouble\\b", "\\bfloat\\b", "\\bThread\\b", "\\bRandom\\b", "currentTime", "nanoTime", "while \\(true\\)",
            "\\bInteger\\.(?!bitCount)", "\\bSystem\\.(?!arraycopy)", "\\bnew \\w+\\(\\) \\{"};
        for (String word : forbidden) {
            Matcher m = Pattern.compile(word).matcher(source);
            if (m.find()) fault("rules 3 to 13: " + m.group() + " in line " + lineOf(source, m.start()));
        }
        Matcher statics = Pattern.compile("\\bstatic (?!final\\b)[^(\n]*[;=]").matcher(source);
        if (statics.find()) fault("rule 5: " + statics.group());
        for (int i = 0; i < source.length(); i++) {
            if (source.charAt(i) > 127) fault("a sign beyond 127 in line " + lineOf(source, i));
        }
    }

    private static int lineOf(String source, int at) {
        return (int) source.substring(0, at).chars().filter(c -> c == '\n').count() + 1;
    }

    private static void lengths(String source) {
        List<String> lines = new ArrayList<>(List.of(source.split("\n")));
        for (int i = 0; i < lines.size(); i++) {
            Matcher m = Pattern.compile("^( +)(?:public|private)[^=]*\\(.*\\) \\{$").matcher(lines.get(i));
            if (!m.find()) continue;
            int end = i;
            while (end < lines.size() && !lines.get(end).equals(m.group(1) + "}")) end++;
            if (end - i > 60) fault("rule 11: " + (end - i) + " lines: " + lines.get(i));
        }
    }

    public static void main(String[] args) throws IOException {
        String source = bare(Files.readString(Path.of(SOURCE)));
        face();
        words(source);
        lengths(source);
        System.out.println(wrong == 0 ? "the face and the rules hold" : wrong + " rules do not hold");
        if (wrong != 0) System.exit(1);
    }
}
