import java.io.IOException;
import java.nio.file.Files;
import java.nio.file.Path;
import java.util.ArrayList;
import java.util.List;
import java.util.stream.Stream;

/** Plays the runs of calls written down in src/test/runs (README.md tells how they are written). */
public final class RunsTest {
    private static final Path RUNS = Path.of("src/test/runs");
    private static final int PROMISES = 21;
    private static final int MOST_CALLS = 512;

    private int wrong;
    private int runs;
    private int calls;

    public static void main(String[] args) throws IOException {
        RunsTest test = new RunsTest();
        List<Path> files = new ArrayList<>();
        try (Stream<Path> listed = Files.list(RUNS)) {
            listed.filter(f -> f.toString().endsWith(".txt")).sorted().forEach(files::add);
        }
        for (Path file : files) {
            for (Run run : Run.readAll(file)) {
                test.play(run);
            }
        }
        test.requireOneFileForEachPromise(files);
        System.out.println(test.runs + " runs, " + test.calls + " calls, " + test.wrong + " answers are not as due");
        if (test.wrong != 0) {
            System.exit(1);
        }
    }

    private void requireOneFileForEachPromise(List<Path> files) {
        for (int p = 1; p <= PROMISES; p++) {
            String start = String.format("%02d-", p);
            if (files.stream().noneMatch(f -> f.getFileName().toString().startsWith(start))) {
                complain(RUNS + ": no run for promise " + p);
            }
        }
    }

    private void play(Run run) {
        runs++;
        calls += run.steps.size();
        if (run.title.isEmpty()) {
            complain(run.steps.get(0), "a run that does not say what it tests");
        }
        if (run.steps.size() > MOST_CALLS) {
            complain(run.steps.get(0), run.title + ": more calls than the document speaks of");
        }
        Calls board = run.newBoard();
        for (Run.Step step : run.steps) {
            String got = board.call(step.name(), step.arguments());
            if (!got.equals(step.due())) {
                complain(step, run.title + ": " + step + " answered " + got + ", due is " + step.due());
            }
        }
        requireThatRefusedCallsChangeNothing(run);
    }

    private void requireThatRefusedCallsChangeNothing(Run run) {
        String before = null;
        for (int i = 0; i < run.steps.size(); i++) {
            Run.Step step = run.steps.get(i);
            if (!step.isRefused()) {
                before = null;
                continue;
            }
            if (before == null) {
                before = probeAfter(run, i);
            }
            String after = probeAfter(run, i + 1);
            if (!after.equals(before)) {
                complain(step, run.title + ": " + step + " threw, but changed something");
            }
            before = after;
        }
    }

    private static String probeAfter(Run run, int steps) {
        Calls board = run.newBoard();
        for (Run.Step step : run.steps.subList(0, steps)) {
            board.call(step.name(), step.arguments());
        }
        return Probe.of(board);
    }

    private void complain(Run.Step step, String text) {
        complain(step.place() + ": " + text);
    }

    private void complain(String text) {
        wrong++;
        System.out.println(text);
    }
}
