import java.io.IOException;
import java.nio.file.Files;
import java.nio.file.Path;
import java.util.ArrayList;
import java.util.List;
import java.util.NoSuchElementException;
import java.util.regex.Matcher;
import java.util.regex.Pattern;

/** The example of README.md, row by row: its calls stand there as here, and answer what is written behind them. */
public final class ReadmeTest {
    private static final Pattern ROW = Pattern.compile("(ridge\\.\\w+\\(.*\\)); +// (\\w+|-\\d+)(:.*)?");

    public static void main(String[] args) throws IOException {
        List<String> got = answers();
        List<String> want = rows(Files.readString(Path.of("README.md")));
        boolean holds = got.equals(want);
        for (int i = 0; i < Math.max(got.size(), want.size()) && !holds; i++) {
            String here = i < got.size() ? got.get(i) : "nothing";
            String there = i < want.size() ? want.get(i) : "nothing";
            if (!here.equals(there)) {
                System.out.println("ReadmeTest: README.md says " + there + ", the call is " + here);
            }
        }
        System.out.println(holds ? "ReadmeTest: all answers are as due" : "ReadmeTest: not as due");
        if (!holds) {
            System.exit(1);
        }
    }

    private static List<String> rows(String readme) {
        List<String> rows = new ArrayList<>();
        for (String line : readme.split("\n")) {
            Matcher row = ROW.matcher(line);
            if (row.matches()) {
                rows.add(row.group(1) + " = " + row.group(2));
            } else if (line.startsWith("ridge.")) {
                rows.add(line);
            }
        }
        return rows;
    }

    private static List<String> answers() {
        HawkRidge ridge = new HawkRidge();
        List<String> rows = new ArrayList<>();
        rows.add("ridge.post(0) = " + ridge.post(0));
        rows.add("ridge.post(60) = " + ridge.post(60));
        rows.add("ridge.kind(0, 20, 60) = " + ridge.kind(0, 20, 60));
        rows.add("ridge.tell(0, 4, 30, 0, 0) = " + ridge.tell(0, 4, 30, 0, 0));
        rows.add("ridge.tell(0, 4, 90, 1, 1) = " + ridge.tell(0, 4, 90, 1, 1));
        rows.add("ridge.partner(0) = " + ridge.partner(0));
        rows.add("ridge.bird(1) = " + ridge.bird(1));
        rows.add("ridge.birds(0, 1, 0) = " + ridge.birds(0, 1, 0));
        rows.add("ridge.passage(0, 0, 0) = " + ridge.passage(0, 0, 0));
        rows.add("ridge.off(0, 5, 0, true) = " + ridge.off(0, 5, 0, true));
        rows.add("ridge.tell(0, 5, 59, 0, 0) = " + ridge.tell(0, 5, 59, 0, 0));
        rows.add("ridge.year(0, 5) = " + ridge.year(0, 5));
        rows.add("ridge.wind(0, 5, 2) = " + ridge.wind(0, 5, 2));
        rows.add("ridge.year(0, 5) = " + ridge.year(0, 5));
        rows.add("ridge.change(1, 0) = " + ridge.change(1, 0));
        rows.add("ridge.later() = " + ridge.later());
        rows.add("ridge.tell(0, 6, 0, 0, 1) = " + ridge.tell(0, 6, 0, 0, 1));
        rows.add("ridge.year(0, 2) = " + ridge.year(0, 2));
        rows.add("ridge.known(0) = " + ridge.known(0));
        rows.add("ridge.year(0, 2) = " + ridge.year(0, 2));
        rows.add("ridge.known(HawkRidge.NONE) = " + ridge.known(HawkRidge.NONE));
        rows.add("ridge.look(2, 5) = " + ridge.look(2, 5));
        rows.add("ridge.count(3) = " + ridge.count(3));
        rows.add("ridge.birds(0, 2, 0) = " + thrownByBirds(ridge));
        return rows;
    }

    private static String thrownByBirds(HawkRidge ridge) {
        try {
            return "" + ridge.birds(0, 2, 0);
        } catch (NoSuchElementException e) {
            return e.getClass().getSimpleName();
        }
    }
}
