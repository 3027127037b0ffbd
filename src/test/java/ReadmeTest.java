import java.lang.reflect.Method;
import java.lang.reflect.Modifier;
import java.nio.file.Files;
import java.nio.file.Path;
import java.util.ArrayList;
import java.util.List;
import java.util.regex.Matcher;
import java.util.regex.Pattern;

/** Whether README.md tells the truth: its example, row by row, and the calls that it names. */
public final class ReadmeTest {
    private static int wrong = 0;

    private static void check(boolean right, String said) {
        if (!right) {
            wrong++;
            System.out.println(said);
        }
    }

    public static void main(String[] args) throws Exception {
        String page = Files.readString(Path.of("README.md"));
        example(rowsOf(page));
        for (Method m : WhoseDelay.class.getDeclaredMethods()) {
            boolean named = page.contains("`" + m.getName() + "`");
            check(named || !Modifier.isPublic(m.getModifiers()), "README.md does not name " + m.getName());
        }
        System.out.println(wrong == 0 ? "README.md is right" : wrong + " things in README.md are not right");
        if (wrong != 0) {
            System.exit(1);
        }
    }

    /** The calls of the example, each with the number at the end of its comment. */
    private static List<String> rowsOf(String page) {
        List<String> rows = new ArrayList<>();
        Matcher m = Pattern.compile("(?m)^(?:int \\w+ = )?(x\\..*);\\s+// .*?(-?\\d+)$").matcher(page);
        while (m.find()) {
            rows.add(m.group(1) + " " + m.group(2));
        }
        return rows;
    }

    private static void example(List<String> rows) {
        WhoseDelay x = new WhoseDelay();
        List<String> due = new ArrayList<>();
        int dig = x.work(1, 5);
        due.add("x.work(1, 5) " + dig);
        int build = x.work(2, 4);
        due.add("x.work(2, 4) " + build);
        due.add("x.link(dig, build, 0) " + x.link(dig, build, 0));
        due.add("x.end(0) " + x.end(0));
        due.add("x.today(10) " + x.today(10));
        int event = x.event(10 * dig + 0, 3, 2);
        due.add("x.event(10 * dig + 0, 3, 2) " + event);
        due.add("x.notice(event, 8) " + x.notice(event, 8));
        due.add("x.end(1 << event) " + x.end(1 << event));
        due.add("x.one(event, 10) " + x.one(event, 10));
        due.add("x.claim(2) " + x.claim(2));
        due.add("x.feed('n' | '<' << 8 | '4' << 16, 3) " + x.feed('n' | '<' << 8 | '4' << 16, 3));
        due.add("x.clause(0, 0) " + x.clause(0, 0));
        due.add("x.says(0, event) " + x.says(0, event));
        due.add("x.hurry(build, 2, 50) " + x.hurry(build, 2, 50));
        due.add("x.least(14, -1) " + x.least(14, -1));
        due.add("x.today(9) " + x.today(9));
        due.add("x.found(1) " + x.found(1));
        check(rows.size() == due.size(), "README.md has " + rows.size() + " rows, " + due.size() + " are due");
        for (int i = 0; i < Math.min(rows.size(), due.size()); i++) {
            check(rows.get(i).equals(due.get(i)), "README.md says " + rows.get(i) + ", due is " + due.get(i));
        }
    }
}
