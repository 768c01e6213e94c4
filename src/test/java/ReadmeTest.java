import java.lang.reflect.Method;
import java.nio.file.Files;
import java.nio.file.Path;
import java.util.Map;
import java.util.regex.Matcher;
import java.util.regex.Pattern;

/** The run in README.md: each call answers the number or the sign that its comment begins with. */
public final class ReadmeTest {
    static final Pattern ROW = Pattern.compile("desk\\.(\\w+)\\(([-\\d, ]*)\\);\\s*(?://\\s*(-?\\d+|'.')?.*)?");

    public static void main(String[] args) throws Exception {
        Map<String, Method> face = DifferentialTest.face(HoleDesk.class);
        HoleDesk desk = null;
        int rows = 0;
        for (String line : Files.readAllLines(Path.of("README.md"))) {
            Matcher row = ROW.matcher(line);
            if (line.equals("HoleDesk desk = new HoleDesk();")) {
                desk = new HoleDesk();
            } else if (desk != null && row.matches()) {
                rows++;
                long got = DifferentialTest.answer(face, desk, call(row.group(1), row.group(2)));
                if (row.group(3) != null) {
                    Desk.due(line.trim(), got, want(row.group(3)));
                }
            }
        }
        Desk.due("rows of calls in README.md", rows > 0 ? 1 : 0, 1);
        Desk.end();
    }

    static DifferentialTest.Call call(String name, String list) {
        int[] numbers = new int[3];
        String[] given = list.isBlank() ? new String[0] : list.split(",");
        for (int i = 0; i < given.length; i++) {
            numbers[i] = Integer.parseInt(given[i].trim());
        }
        return new DifferentialTest.Call(name, numbers[0], numbers[1], numbers[2]);
    }

    static long want(String told) {
        return told.charAt(0) == '\'' ? told.charAt(1) : Long.parseLong(told);
    }
}
