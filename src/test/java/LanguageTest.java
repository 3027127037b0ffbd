import java.io.IOException;
import java.lang.management.ManagementFactory;
import java.lang.reflect.Constructor;
import java.lang.reflect.Field;
import java.lang.reflect.Method;
import java.lang.reflect.Modifier;
import java.nio.charset.StandardCharsets;
import java.nio.file.Files;
import java.nio.file.Path;
import java.util.ArrayList;
import java.util.Arrays;
import java.util.List;
import java.util.Set;
import java.util.TreeSet;
import java.util.regex.Matcher;
import java.util.regex.Pattern;

/** Whether the program keeps to LANGUAGE.md, as far as its source, its classes and its room tell. */
public final class LanguageTest {
    private static final Path SOURCE = Path.of("src/main/java/WhoseDelay.java");
    private static final String[] FACE = {"int work(int,int)", "int as(int,int)", "int edit(int,int)", "int link(int,int,int)",
        "int unlink(int,int)", "int week(int)", "int rain(int,int,boolean)", "int today(int)", "int event(int,int,int)", "int notice(int,int)",
        "int back(int)", "int of(int,int)", "int known(int)", "int plan(int,int,int)", "int end(int)", "int chain(int,int)", "int one(int,int)",
        "int without(int,int)", "int butFor(int,int)", "int window(int,int,int,int)", "int feed(long,int)", "int clause(int,int)",
        "int says(int,int)", "int force(int,int)", "int claim(int)", "int hurry(int,int,int)", "int calm()", "int least(int,int)",
        "int proves(int,int,int)", "int voice(int,int,int)", "int trace(int)", "int sheet(int,int,int)", "int put(int,int,int)",
        "int move(int,int,int,int,int)", "int image()", "int restore()", "int told(int)", "int found(int)"};
    private static int wrong = 0;

    private static void check(boolean right, String said) {
        if (!right) {
            wrong++;
            System.out.println(said);
        }
    }

    public static void main(String[] args) throws IOException {
        String source = Files.readString(SOURCE, StandardCharsets.ISO_8859_1);
        String code = withoutComments(source);
        face();
        classes();
        words(code);
        library(code);
        methods(code);
        room();
        System.out.println(wrong == 0 ? "the program keeps to its language" : wrong + " rules are not kept to");
        if (wrong != 0) {
            System.exit(1);
        }
    }

    /** Comments and the signs of texts become blanks, lines stay. */
    private static String withoutComments(String source) {
        Matcher m = Pattern.compile("//[^\n]*|/\\*.*?\\*/|'(?:\\\\.|[^'\\\\])'|\"(?:\\\\.|[^\"\\\\])*\"", Pattern.DOTALL).matcher(source);
        StringBuilder b = new StringBuilder();
        while (m.find()) {
            m.appendReplacement(b, m.group().startsWith("/") ? m.group().replaceAll("[^\n]", " ") : "0");
        }
        return m.appendTail(b).toString();
    }

    private static void face() {
        Set<String> due = new TreeSet<>(Arrays.asList(FACE));
        Set<String> got = new TreeSet<>();
        Set<String> names = new TreeSet<>();
        for (Method m : WhoseDelay.class.getDeclaredMethods()) {
            if (Modifier.isPublic(m.getModifiers())) {
                got.add(m.toString().replaceFirst("public int WhoseDelay\\.", "int "));
                names.add(m.getName());
            } else {
                check(Modifier.isPrivate(m.getModifiers()) || m.isSynthetic(), "rule 1: " + m + " is neither public nor private");
            }
        }
        check(got.equals(due), "rule 1: the face is " + got);
        check(Modifier.isFinal(WhoseDelay.class.getModifiers()), "rule 1: the class is not final");
        Constructor<?>[] made = WhoseDelay.class.getDeclaredConstructors();
        check(made.length == 1 && made[0].getParameterCount() == 0 && Modifier.isPublic(made[0].getModifiers()), "rule 1: the constructor");
        for (Class<?> c : allClasses()) {
            for (Method m : c.getDeclaredMethods()) {
                boolean mine = c == WhoseDelay.class && Modifier.isPublic(m.getModifiers());
                check(mine || !names.contains(m.getName()), "rule 1: " + m + " bears a public name");
                check(m.getParameterCount() <= 7, "rule 11: " + m + " takes too much");
            }
        }
    }

    private static List<Class<?>> allClasses() {
        List<Class<?>> all = new ArrayList<>(List.of(WhoseDelay.class));
        all.addAll(Arrays.asList(WhoseDelay.class.getDeclaredClasses()));
        return all;
    }

    private static void classes() {
        check(allClasses().size() <= 12, "rule 11: too many classes");
        for (Class<?> c : allClasses()) {
            check(c == WhoseDelay.class || Modifier.isStatic(c.getModifiers()), "rule 2: " + c + " is not static");
            check(c == WhoseDelay.class || !Modifier.isPublic(c.getModifiers()), "rule 1: " + c + " is public");
            int fields = 0;
            for (Field f : c.getDeclaredFields()) {
                if (Modifier.isStatic(f.getModifiers())) {
                    check(Modifier.isFinal(f.getModifiers()), "rule 5: " + f + " is not final");
                    check(Set.of(int.class, int[].class).contains(f.getType()), "rule 5: " + f);
                } else {
                    fields++;
                }
                check(c != WhoseDelay.class || Modifier.isPrivate(f.getModifiers()), "rule 1: " + f + " is not private");
            }
            check(fields <= 20, "rule 11: " + c + " has too many fields");
        }
    }

    private static void words(String code) {
        String[] never = {"throw", "throws", "try", "catch", "finally", "synchronized", "assert", "import", "package", "var", "Object", "Random",
            "Thread", "double", "float", "volatile", "transient", "native", "hashCode", "toString", "yield", "goto"};
        for (String word : never) {
            check(!Pattern.compile("\\b" + word + "\\b").matcher(code).find(), "the word " + word + " stands in the program");
        }
        for (String sign : new String[] {"->", "::", "@", "Exact"}) {
            check(!code.contains(sign), "the sign " + sign + " stands in the program");
        }
        for (int i = 0; i < code.length(); i++) {
            check(code.charAt(i) < 127, "rule 4: sign " + (int) code.charAt(i) + " at " + i);
        }
        // A while has no counter of its own to be seen.
        check(!Pattern.compile("\\bwhile\\b").matcher(code).find(), "rule 9: a while");
        Matcher loops = Pattern.compile("\\bfor \\(([^;]*);([^;]*);").matcher(code);
        while (loops.find()) {
            check(Pattern.compile("\\w (<|<=|>=) \\w").matcher(loops.group(2)).find(), "rule 9: " + loops.group());
        }
    }

    private static void library(String code) {
        Set<String> may = Set.of("System.arraycopy", "Math.max", "Math.min", "Integer.bitCount");
        Matcher m = Pattern.compile("\\b(System|Math|Integer|Long|Arrays|String|StringBuilder|List|ArrayList)\\b(\\.\\w+)?").matcher(code);
        while (m.find()) {
            check(may.contains(m.group()), "rule 4: " + m.group());
        }
    }

    private static void methods(String code) {
        String[] lines = code.split("\n");
        int start = -1;
        for (int i = 0; i < lines.length; i++) {
            if (lines[i].matches("( {4}| {8})\\S.*\\) \\{")) {
                start = i;
            } else if (start >= 0 && lines[i].matches("( {4}| {8})\\}")) {
                check(i - start <= 60, "rule 11: the method of line " + (start + 1) + " is long");
                start = -1;
            }
        }
    }

    /** All rows are made with the object: no call makes one. */
    private static void room() {
        com.sun.management.ThreadMXBean bean = (com.sun.management.ThreadMXBean) ManagementFactory.getThreadMXBean();
        long thread = Thread.currentThread().getId();
        allCalls(new WhoseDelay());
        bean.getThreadAllocatedBytes(thread);
        long first = bean.getThreadAllocatedBytes(thread);
        WhoseDelay x = new WhoseDelay();
        long made = bean.getThreadAllocatedBytes(thread);
        allCalls(x);
        long called = bean.getThreadAllocatedBytes(thread);
        // What the bean itself makes is some hundred bytes.
        check(made - first < 40000, "rule 12: an object takes " + (made - first) + " bytes");
        check(called - made < 1000, "rule 12: the calls took " + (called - made) + " bytes");
    }

    private static void allCalls(WhoseDelay x) {
        for (int i = 0; i < 8; i++) {
            x.work(i % 6, 5 + i);
            x.link(i - 1, i, i);
        }
        x.edit(0, 9);
        x.week(63);
        x.rain(3, 9, true);
        x.today(9);
        for (int i = 0; i < 8; i++) {
            x.event(10 * i + i % 4, i, i + 1);
            x.notice(i, 9);
        }
        for (int use = 0; use < 2; use++) {
            x.feed(0x662A642B6328L + ((long) ')' << 48), 7);
            x.clause(use, 0);
        }
        for (int i = 0; i < 5; i++) {
            x.hurry(i, 2, 3);
        }
        x.sheet(0, 8, 5);
        for (int i = 0; i < 10; i++) {
            x.as(0, i);
            x.of(0, i);
            x.known(i);
            x.plan(255, i, 2);
            x.end(i);
            x.chain(255, i);
            x.one(i, 9);
            x.without(i, 9);
            x.butFor(i, 9);
            x.window(5, i, 1, 9);
            x.says(0, i);
            x.force(1, i);
            x.claim(i);
            x.least(60 + i, -1);
            x.proves(0, 60 + i, 9);
            x.voice(i, 3, i);
            x.trace(i);
            x.put(0, i, i);
            x.move(0, 0, 0, i, 2);
            x.image();
            x.unlink(0, 1);
            x.back(0);
            x.restore();
            x.told(i);
            x.found(i);
        }
        x.calm();
    }
}
