import java.io.IOException;
import java.nio.file.Files;
import java.nio.file.Path;
import java.util.ArrayList;
import java.util.List;
import java.util.regex.Matcher;
import java.util.regex.Pattern;

/** A run of calls on one new board, as a file under src/test/runs tells it (README.md says how they are written). */
final class Run {
    record Step(String place, String name, String[] arguments, String due) {
        boolean isRefused() {
            return due.startsWith("throws.");
        }

        @Override
        public String toString() {
            return name + "(" + String.join(", ", arguments) + ")";
        }
    }

    private static final Pattern BOARD = Pattern.compile("JobBoard\\((\\w+|-\\d+)\\)");
    private static final Pattern CALL =
            Pattern.compile("(?:(\\d+) x )?(\\w+)\\(([^)]*)\\) (?:= (\\S+)(?: \\.\\. (\\S+))?|throws (\\w+))");
    private static final Pattern ARGUMENT = Pattern.compile("\\{[^}]*\\}|[^,{}\\s]+");

    /** The comment above the run says which words of the document it tests. */
    final String title;
    final int sessions;
    final List<Step> steps = new ArrayList<>();

    private Run(String title, int sessions) {
        this.title = title;
        this.sessions = sessions;
    }

    Calls newBoard() {
        return new Calls(new JobBoard(sessions));
    }

    static List<Run> readAll(Path file) throws IOException {
        List<Run> runs = new ArrayList<>();
        List<String> lines = Files.readAllLines(file);
        String title = "";
        for (int i = 0; i < lines.size(); i++) {
            String place = file.getFileName() + ":" + (i + 1);
            String line = lines.get(i).strip();
            if (line.startsWith("#")) {
                title = (title + " " + line.substring(1).strip()).strip();
                continue;
            }
            line = line.replaceFirst("#.*", "").strip();
            Matcher board = BOARD.matcher(line);
            if (board.matches()) {
                runs.add(new Run(title, Integer.parseInt(number(board.group(1)))));
            } else if (!line.isEmpty()) {
                runs.get(runs.size() - 1).addLine(place, line);
            }
            title = "";
        }
        return runs;
    }

    private void addLine(String place, String line) {
        Matcher m = CALL.matcher(line);
        if (!m.matches()) {
            throw new IllegalArgumentException(place + ": not a call: " + line);
        }
        List<List<String>> choices = new ArrayList<>();
        Matcher argument = ARGUMENT.matcher(m.group(3));
        while (argument.find()) {
            choices.add(choices(argument.group()));
        }
        int times = m.group(1) == null ? 1 : Integer.parseInt(m.group(1));
        for (int i = 0; i < times; i++) {
            for (String due : dueAnswers(m.group(4), m.group(5), m.group(6))) {
                addAll(place, m.group(2), choices, due);
            }
        }
    }

    private static List<String> dueAnswers(String first, String last, String thrown) {
        if (thrown != null) {
            return List.of("throws." + thrown);
        }
        if (last == null) {
            return List.of(number(first));
        }
        List<String> rising = new ArrayList<>();
        for (long due = Long.parseLong(first); due <= Long.parseLong(last); due++) {
            rising.add(Long.toString(due));
        }
        return rising;
    }

    private static List<String> choices(String argument) {
        List<String> choices = new ArrayList<>();
        for (String choice : argument.replaceAll("[{}]", "").split(",")) {
            choices.add(number(choice.strip()));
        }
        return choices;
    }

    /** One call for each way to choose the arguments. */
    private void addAll(String place, String name, List<List<String>> choices, String due) {
        List<List<String>> ways = List.of(List.of());
        for (List<String> choice : choices) {
            List<List<String>> longer = new ArrayList<>();
            for (List<String> way : ways) {
                for (String argument : choice) {
                    List<String> more = new ArrayList<>(way);
                    more.add(argument);
                    longer.add(more);
                }
            }
            ways = longer;
        }
        for (List<String> way : ways) {
            steps.add(new Step(place, name, way.toArray(new String[0]), due));
        }
    }

    private static String number(String word) {
        return switch (word) {
            case "INT_MIN" -> Integer.toString(Integer.MIN_VALUE);
            case "INT_MAX" -> Integer.toString(Integer.MAX_VALUE);
            case "LONG_MIN" -> Long.toString(Long.MIN_VALUE);
            case "LONG_MAX" -> Long.toString(Long.MAX_VALUE);
            default -> word;
        };
    }
}
