import java.io.IOException;
import java.nio.file.Files;
import java.nio.file.Path;
import java.util.ArrayList;
import java.util.List;
import java.util.regex.Matcher;
import java.util.regex.Pattern;
import java.util.stream.Stream;

/** Plays the runs of calls written down in src/test/runs (README.md tells how they are written). */
public final class RunsTest {
    private static final Path RUNS = Path.of("src/test/runs");
    private static final int PROMISES = 21;
    private static final Pattern CALL =
            Pattern.compile("(\\w+)\\(([^)]*)\\) (?:= (\\S+)(?: \\.\\. (\\S+))?|throws (\\w+))");

    private Calls board;
    private String place;
    private int wrong;
    private int calls;

    public static void main(String[] args) throws IOException {
        RunsTest test = new RunsTest();
        List<Path> files = new ArrayList<>();
        try (Stream<Path> listed = Files.list(RUNS)) {
            listed.filter(f -> f.toString().endsWith(".txt")).sorted().forEach(files::add);
        }
        for (Path file : files) {
            test.play(file);
        }
        test.requireOneFileForEachPromise(files);
        System.out.println(test.calls + " calls, " + test.wrong + " answers are not as due");
        if (test.wrong != 0) {
            System.exit(1);
        }
    }

    private void requireOneFileForEachPromise(List<Path> files) {
        for (int p = 1; p <= PROMISES; p++) {
            String start = String.format("%02d-", p);
            if (files.stream().noneMatch(f -> f.getFileName().toString().startsWith(start))) {
                place = RUNS.toString();
                complain("no run for promise " + p);
            }
        }
    }

    private void play(Path file) throws IOException {
        board = null;
        List<String> lines = Files.readAllLines(file);
        for (int i = 0; i < lines.size(); i++) {
            place = file.getFileName() + ":" + (i + 1);
            String line = lines.get(i).replaceFirst("#.*", "").strip();
            if (!line.isEmpty()) {
                playLine(line);
            }
        }
    }

    private void playLine(String line) {
        if (line.startsWith("JobBoard(")) {
            board = new Calls(new JobBoard(Integer.parseInt(line.substring(9, line.length() - 1))));
            return;
        }
        Matcher m = CALL.matcher(line);
        if (!m.matches() || board == null) {
            complain("not a call: " + line);
            return;
        }
        String[] arguments = m.group(2).isBlank() ? new String[0] : m.group(2).split(",\\s*");
        if (m.group(5) != null) {
            expectThrow(m.group(1), arguments, m.group(5));
        } else if (m.group(4) == null) {
            expect(m.group(1), arguments, m.group(3));
        } else {
            for (long due = Long.parseLong(m.group(3)); due <= Long.parseLong(m.group(4)); due++) {
                expect(m.group(1), arguments, Long.toString(due));
            }
        }
    }

    private void expect(String name, String[] arguments, String due) {
        calls++;
        String got = board.call(name, arguments);
        if (!got.equals(due)) {
            complain(name + "(" + String.join(", ", arguments) + ") answered " + got + ", due is " + due);
        }
    }

    private void expectThrow(String name, String[] arguments, String due) {
        String before = board.snapshot();
        expect(name, arguments, "throws." + due);
        if (!board.snapshot().equals(before)) {
            complain(name + " threw, but changed something");
        }
    }

    private void complain(String text) {
        wrong++;
        System.out.println(place + ": " + text);
    }
}
