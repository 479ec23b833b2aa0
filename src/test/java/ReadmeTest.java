import java.io.IOException;
import java.lang.reflect.Method;
import java.nio.file.Files;
import java.nio.file.Path;
import java.util.regex.Matcher;
import java.util.regex.Pattern;

/** The answers and numbers that README.md tells, so that nobody is led astray by it. */
public final class ReadmeTest {
    private static final Due due = new Due("ReadmeTest");
    private static final Pattern CALL =
            Pattern.compile("(?m)^ +house\\.(\\w+)\\(([^)]*)\\); +// (-?\\d+)\\b");
    private static final Pattern CONSTANT = Pattern.compile("(?m)^\\| `(\\w+)` \\| (-\\d+) \\|");
    private static final int[] FINDINGS = {-11, -12, -13, -14, -15};

    public static void main(String[] args) throws IOException, ReflectiveOperationException {
        String page = Files.readString(Path.of("README.md"));
        example(page);
        constants(page);
        findings(page);
        calls(page);
        due.finish();
    }

    private static void example(String page) throws ReflectiveOperationException {
        OvenHouse house = new OvenHouse();
        int told = 0;
        Matcher line = CALL.matcher(page);
        while (line.find()) {
            long got = answer(house, line.group(1), line.group(2));
            due.is(line.group(1) + "(" + line.group(2) + ")", got, Long.parseLong(line.group(3)));
            told++;
        }
        due.is("each call of the example has its answer", told, page.split("\n +house\\.").length - 1);
    }

    private static long answer(OvenHouse house, String name, String list)
            throws ReflectiveOperationException {
        String[] told = list.isEmpty() ? new String[0] : list.split(", ");
        Object[] numbers = new Object[told.length];
        Class<?>[] types = new Class<?>[told.length];
        for (int i = 0; i < told.length; i++) {
            numbers[i] = Integer.valueOf(told[i]);
            types[i] = int.class;
        }
        return ((Number) OvenHouse.class.getMethod(name, types).invoke(house, numbers)).longValue();
    }

    private static void constants(String page) throws ReflectiveOperationException {
        int told = 0;
        Matcher row = CONSTANT.matcher(page);
        while (row.find()) {
            int is = OvenHouse.class.getField(row.group(1)).getInt(null);
            due.is(row.group(1), is, Integer.parseInt(row.group(2)));
            told++;
        }
        due.is("constants told", told, 5);
    }

    private static void findings(String page) {
        OvenHouse house = new OvenHouse();
        house.sheet(1, 0, 1);
        house.sheet(2, 1, 1);
        int[] found = {house.lose(0), house.put(1, 0, 1, 0), house.put(1, 1, 0, 0),
            house.copy(1, 0, 2, 0, 1), house.sheet(3, 0, -1)};
        String[] names = {"NULL", "INDEX", "CAST", "STORE", "SIZE"};
        for (int i = 0; i < FINDINGS.length; i++) {
            due.is(names[i], found[i], FINDINGS[i]);
            String row = "| " + names[i] + " | " + FINDINGS[i] + " | FINDING " + (i + 1) + ":";
            due.holds("told: " + row, page.contains(row));
        }
    }

    private static void calls(String page) {
        for (Method call : OvenHouse.class.getMethods()) {
            if (call.getDeclaringClass() == OvenHouse.class) {
                due.holds("told: " + call.getName(), page.contains("`" + call.getName() + "`"));
            }
        }
    }
}
