import java.lang.annotation.Retention;
import java.lang.annotation.RetentionPolicy;
import java.lang.reflect.InvocationTargetException;
import java.lang.reflect.Method;
import java.nio.charset.StandardCharsets;
import java.nio.file.Files;
import java.nio.file.Path;
import java.util.ArrayList;
import java.util.Comparator;
import java.util.LinkedHashMap;
import java.util.LinkedHashSet;
import java.util.List;
import java.util.Map;
import java.util.Set;

/**
 * What the tests of edges share. Each sentence of the document that names a boundary case has a
 * test of its own there: a method that quotes its sentence, or the part of it that it asks for. The
 * quotes are held against ../shared/DOC.md, so that no sentence of the terms or promises is left
 * without a test.
 */
class Edges {
    @Retention(RetentionPolicy.RUNTIME)
    @interface Says {
        /** "Findings", "Term 1" .. "Term 7", "Promise 1" .. "Promise 39". */
        String in();

        String text();
    }

    static final int LOW = -1000000;
    static final int BEYOND = LOW - 1;
    static final int NONE = LOW - 2;
    static final int STATE = LOW - 3;
    static final int FULL = LOW - 4;
    static final int KIND = LOW - 5;
    static final int MIN = Integer.MIN_VALUE;
    static final int MAX = Integer.MAX_VALUE;

    private static final String DOCUMENT = "../shared/DOC.md";

    private static String test = "";
    private static int asked = 0;
    private static int wrong = 0;

    static void due(String call, long got, long want) {
        due(call, Long.toString(got), Long.toString(want));
    }

    static void due(String call, String got, String want) {
        asked++;
        if (!got.equals(want)) {
            wrong++;
            System.out.println(test + ": " + call + " answered " + got + ", due is " + want);
        }
    }

    static void run(Class<?> tests) throws Exception {
        List<Method> methods = methodsOf(tests);
        for (Method method : methods) {
            run(method);
        }
        holdAgainstDocument(tests.getSimpleName(), methods);
        System.out.println(methods.size() + " edges, " + asked + " answers asked: " + (wrong == 0 ? "all are as due" : wrong + " are not as due"));
        if (wrong != 0) {
            System.exit(1);
        }
    }

    private static List<Method> methodsOf(Class<?> tests) {
        List<Method> methods = new ArrayList<>();
        for (Method method : tests.getDeclaredMethods()) {
            if (method.isAnnotationPresent(Says.class)) {
                methods.add(method);
            }
        }
        methods.sort(Comparator.comparing((Method m) -> m.getAnnotation(Says.class).in()).thenComparing(Method::getName));
        return methods;
    }

    /** A test that throws, or that asks for nothing, has failed. */
    private static void run(Method method) throws IllegalAccessException {
        test = method.getAnnotation(Says.class).in() + ", " + method.getName();
        int before = asked;
        try {
            method.invoke(null);
        } catch (InvocationTargetException e) {
            wrong++;
            System.out.println(test + ": " + e.getCause());
        }
        if (asked == before) {
            wrong++;
            System.out.println(test + " asks for nothing");
        }
    }

    // ---- the document

    /** The test that has the sentences of a place. */
    private static String testOf(String place) {
        if (place.equals("Findings")) {
            return "EdgesOfFindingsTest";
        }
        int number = Integer.parseInt(place.substring(place.indexOf(' ') + 1));
        if (place.startsWith("Term ")) {
            return number == 4 ? "EdgesOfTextsTest" : "EdgesOfTermsTest";
        }
        if (number <= 9) {
            return "EdgesOfWorksTest";
        }
        if (number <= 21) {
            return "EdgesOfEventsTest";
        }
        return number <= 30 ? "EdgesOfContractTest" : "EdgesOfSheetsTest";
    }

    private static void holdAgainstDocument(String name, List<Method> methods) throws Exception {
        if (!Files.isReadable(Path.of(DOCUMENT))) {
            System.out.println("there is no " + DOCUMENT + " here: the quotes are not held against it");
            return;
        }
        Map<String, Set<String>> all = sentences();
        Map<String, Set<String>> left = sentences();
        left.keySet().removeIf(place -> !testOf(place).equals(name));
        for (Method method : methods) {
            Says says = method.getAnnotation(Says.class);
            Set<String> there = all.getOrDefault(says.in(), Set.of());
            boolean whole = there.contains(says.text());
            boolean stands = false;
            for (String sentence : there) {
                if (whole ? sentence.equals(says.text()) : sentence.contains(says.text())) {
                    stands = true;
                    left.getOrDefault(says.in(), new LinkedHashSet<>()).remove(sentence);
                }
            }
            if (!stands) {
                wrong++;
                System.out.println(says.in() + ", " + method.getName() + ": the document does not say \"" + says.text() + "\"");
            }
        }
        for (String place : left.keySet()) {
            for (String sentence : left.get(place)) {
                wrong++;
                System.out.println(place + ": no test says \"" + sentence + "\"");
            }
        }
    }

    /** The sentences of each place of the document, without the full stops behind them. */
    private static Map<String, Set<String>> sentences() throws Exception {
        Map<String, Set<String>> all = new LinkedHashMap<>();
        Map<String, StringBuilder> texts = texts();
        for (String place : texts.keySet()) {
            Set<String> parts = new LinkedHashSet<>();
            for (String part : texts.get(place).toString().trim().replaceAll("\\s+", " ").split("(?<!\\.)\\.(?=\\s|$)")) {
                parts.add(part.trim());
            }
            all.put(place, parts);
        }
        return all;
    }

    private static Map<String, StringBuilder> texts() throws Exception {
        Map<String, StringBuilder> texts = new LinkedHashMap<>();
        String place = "";
        for (String line : Files.readAllLines(Path.of(DOCUMENT), StandardCharsets.UTF_8)) {
            String text = line;
            if (line.startsWith("## ") || line.startsWith("Ahead of the calls")) {
                place = line.equals("## Terms") ? "Findings" : line.startsWith("## Promise ") ? line.substring(3, line.indexOf(':')) : "";
                continue;
            }
            if (!place.isEmpty() && line.matches("[1-7]\\. .*")) {
                place = "Term " + line.charAt(0);
                text = line.substring(3);
            }
            if (!place.isEmpty() && !line.startsWith("```")) {
                texts.computeIfAbsent(place, p -> new StringBuilder()).append(' ').append(text.replaceFirst("^`[^`]*`:", ""));
            }
        }
        return texts;
    }

    // ---- objects to ask, and what is read from them

    /** Works of a kind, each of so many days. */
    static WhoseDelay with(int kind, int... days) {
        WhoseDelay x = new WhoseDelay();
        for (int d : days) {
            x.work(kind, d);
        }
        return x;
    }

    /** So many works of a kind, all of the same days. */
    static WhoseDelay many(int n, int kind, int days) {
        WhoseDelay x = new WhoseDelay();
        for (int i = 0; i < n; i++) {
            x.work(kind, days);
        }
        return x;
    }

    static WhoseDelay inRow(WhoseDelay x) {
        for (int i = 1; i < x.told(0); i++) {
            x.link(i - 1, i, 0);
        }
        return x;
    }

    /** One PAPER of 5 days, and on day 900 so many EVENTS of a day each. */
    static WhoseDelay events(int n) {
        WhoseDelay x = with(4, 5);
        x.today(900);
        for (int i = 0; i < n; i++) {
            x.event(0, 0, 1);
        }
        return x;
    }

    /** Feeds a text, eight bytes at a time. */
    static int feedText(WhoseDelay x, String text) {
        int answer = 0;
        for (int i = 0; i < text.length(); i += 8) {
            long word = 0;
            int n = Math.min(8, text.length() - i);
            for (int b = 0; b < n; b++) {
                word |= (long) (text.charAt(i + b) & 255) << 8 * b;
            }
            answer = x.feed(word, n);
        }
        return answer;
    }

    static int clauseOf(WhoseDelay x, int use, int from, String text) {
        feedText(x, text);
        return x.clause(use, from);
    }

    /** The FAULT of a text, or -1 if it is one. */
    static int fault(String text) {
        int answer = clauseOf(new WhoseDelay(), 0, 0, text);
        return answer == 0 ? -1 : -10 - answer;
    }

    /** What a text is worth (0 .. 9999), by a PRICE. */
    static int value(String text) {
        WhoseDelay x = events(1);
        due("clause of " + text, clauseOf(x, 1, 0, text), 0);
        return x.says(1, 0);
    }

    static void allAre(String what, int want, int... got) {
        for (int i = 0; i < got.length; i++) {
            due(what + ", the " + (i + 1) + "-th,", got[i], want);
        }
    }

    /** An object with something of everything, an IMAGE of another day among it. */
    static WhoseDelay rich() {
        WhoseDelay x = richWithoutImage();
        x.image();
        x.today(15);
        x.edit(5, 11);
        x.event(40, 15, 1);
        feedText(x, "1");
        x.voice(5, 3, 8);
        return x;
    }

    static WhoseDelay richWithoutImage() {
        WhoseDelay x = new WhoseDelay();
        for (int kind = 0; kind < 6; kind++) {
            x.work(kind, 4 + kind);
        }
        x.work(5, 2);
        for (int[] link : RICH_LINKS) {
            x.link(link[0], link[1], link[2]);
        }
        x.week(63);
        x.rain(3, 4, true);
        x.rain(898, 2, true);
        x.today(10);
        x.event(0, 4, 3);
        x.event(13, 6, 2);
        x.event(21, 10, 5);
        x.notice(0, 7);
        x.today(12);
        x.event(32, 11, 4);
        x.back(1);
        clauseOf(x, 0, 5, "n<9|c=2");
        clauseOf(x, 1, 0, "d*10+k+t");
        x.hurry(0, 2, 9);
        x.hurry(3, 1, 4);
        x.sheet(0, 8, 2);
        x.put(0, 0, 1);
        x.put(0, 1, 2);
        x.sheet(1, 16, 24);
        x.put(1, 0, 1);
        x.put(1, 23, 2);
        x.sheet(2, 32, 0);
        feedText(x, "c+");
        return x;
    }

    static final int[][] RICH_LINKS = {{0, 1, 20}, {1, 3, 0}, {2, 5, 3}, {4, 5, 1}};

    /** An object that can have no more of anything. */
    static WhoseDelay full() {
        WhoseDelay x = many(16, 4, 3);
        for (int[] link : fullLinks()) {
            x.link(link[0], link[1], link[2]);
        }
        x.today(30);
        for (int e = 0; e < 20; e++) {
            x.event(10 * (e % 16) + e % 4, e, 1 + e);
        }
        for (int c = 0; c < 10; c++) {
            clauseOf(x, c % 2, c, "d+1");
        }
        feedText(x, "1+".repeat(30));
        for (int w = 0; w < 5; w++) {
            x.hurry(w, 1 + w % 2, 1 + w);
        }
        return x;
    }

    static int[][] fullLinks() {
        int[][] links = new int[30][];
        for (int i = 0; i < 15; i++) {
            links[i] = new int[] {i, i + 1, i};
        }
        for (int i = 0; i < 14; i++) {
            links[15 + i] = new int[] {i, i + 2, 20 - i};
        }
        links[29] = new int[] {0, 3, 7};
        return links;
    }

    /** All that can be learnt of an object (which is spoilt by it), in less than 400 calls. */
    static String readOut(WhoseDelay x, int[][] links) {
        StringBuilder b = new StringBuilder();
        readCounts(x, b);
        for (int i = 0; i <= 10; i++) {
            b.append(x.trace(i)).append(' ');
        }
        int works = x.told(0);
        for (int w = 0; w < works; w++) {
            b.append("\nwork ").append(x.as(w, 0)).append(' ').append(x.plan(0, w, 0)).append(' ').append(x.plan(0, w, 1)).append(' ').append(x.voice(w, 3, 7));
        }
        int events = x.told(2);
        for (int e = 0; e < events; e++) {
            b.append("\nevent");
            for (int what = 2; what <= 6; what++) {
                b.append(' ').append(x.of(e, what));
            }
            b.append(' ').append(x.says(0, e)).append(' ').append(x.says(1, e));
        }
        b.append("\nclaims");
        for (int what = 0; what <= 5; what++) {
            b.append(' ').append(x.claim(what));
        }
        int end = x.end(x.known(900));
        for (int day = end; day > end - 4; day--) {
            b.append("\nleast ").append(x.least(day, -1)).append(' ').append(x.least(day, 0)).append(' ').append(x.least(day, 1));
        }
        b.append("\nhurried ").append(x.calm());
        readSheets(x, b);
        b.append("\nlinks");
        for (int[] link : links) {
            b.append(' ').append(x.unlink(link[0], link[1]));
        }
        b.append("\nweek ").append(x.week(127)).append("\nrain");
        for (int day = 0; day < 900; day += 60) {
            b.append(' ').append(x.rain(day, 60, false));
        }
        b.append("\ntape ").append(x.clause(0, 0)).append("\nimage ").append(x.restore()).append(' ');
        readCounts(x, b);
        return b.append(x.as(0, 0)).append(' ').append(x.end(0)).append(' ').append(x.clause(0, 0)).append(' ').append(x.image()).toString();
    }

    static void readCounts(WhoseDelay x, StringBuilder b) {
        for (int what = 0; what <= 9; what++) {
            b.append(x.told(what)).append(' ');
        }
    }

    /** With five that may be hurried at prices 1, 3, 9, .. a sum tells of five numbers 0 .. 2 each. */
    static void readSheets(WhoseDelay x, StringBuilder b) {
        int price = 1;
        for (int w = 0; w < 5; w++) {
            x.hurry(w, 2, price);
            price *= 3;
        }
        b.append("\nsheets ").append(x.put(3, 0, 0)).append(' ').append(x.move(2, 0, 2, 0, 0)).append(' ').append(x.move(2, 0, 2, 0, 1));
        readSheet(x, 0, 8, 2, b);
        readSheet(x, 1, 16, 24, b);
    }

    static void readSheet(WhoseDelay x, int sheet, int bits, int size, StringBuilder b) {
        x.sheet(3, bits, 5);
        for (int i = 0; i < size; i += 5) {
            b.append(' ').append(x.move(sheet, i, 3, 0, Math.min(5, size - i))).append('/').append(sum(x, 3, 128));
        }
        b.append(' ').append(x.move(sheet, size, sheet, size, 1));
    }

    /** The sum that a SHEET's numbers cost, below twice the first step. */
    static int sum(WhoseDelay x, int sheet, int firstStep) {
        int v = 0;
        for (int step = firstStep; step > 0; step /= 2) {
            if (x.proves(sheet, 9999, v + step - 1) == 101) {
                v += step;
            }
        }
        return v;
    }

    /** What a window tells when each cause holds a work of its own: the parts as digits. */
    static int parts(int... days) {
        WhoseDelay x = many(4, 4, 10);
        for (int c = 0; c < 4; c++) {
            if (days[c] > 0) {
                x.event(10 * c + c, 0, days[c]);
            }
        }
        int all = 0;
        for (int c = 0; c < 4; c++) {
            all = all * 10 + x.window(5, 0, c, 0);
        }
        return all;
    }

    static void traced(WhoseDelay x, String bodies) {
        String[] each = bodies.split(" ");
        due("told(9)", x.told(9), each.length);
        for (int i = 0; i < each.length; i++) {
            due("trace(" + i + ") of " + bodies, x.trace(i), Integer.parseInt(each[i]));
        }
        due("trace behind " + bodies, x.trace(each.length), NONE);
    }
}
