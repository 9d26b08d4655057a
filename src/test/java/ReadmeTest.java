import java.io.IOException;
import java.nio.file.Files;
import java.nio.file.Path;
import java.util.Map;
import java.util.TreeMap;
import java.util.regex.Matcher;
import java.util.regex.Pattern;

/** README.md tells every call of the face, with what it throws, and its example answers as it says. */
public final class ReadmeTest {
    private static final Pattern DECLARED =
            Pattern.compile("(?m)^    public ((?:int|long|boolean) \\w+\\([^)]*\\))(?: throws ([^{]*))? \\{$");
    private static final Pattern TOLD = Pattern.compile("(?m)^- `((?:int|long|boolean) \\w+\\([^)]*\\))`: ([^`]*?)(?=\\n\\n|\\n- )");
    private static final Pattern NEW_BOARD = Pattern.compile("JobBoard board = new JobBoard\\((\\d+)\\);");
    private static final Pattern CALL = Pattern.compile("(?m)^board\\.(\\w+)\\(([^)]*)\\); +// ([^:\\s]+)");

    private int wrong;

    public static void main(String[] args) throws IOException {
        String readme = Files.readString(Path.of("README.md"));
        String program = Files.readString(Path.of("src/main/java/JobBoard.java"));
        ReadmeTest test = new ReadmeTest();
        int calls = test.compareCalls(readme, program);
        int answers = test.playExample(readme);
        System.out.println(calls + " calls told, " + answers + " answers of the example, " + test.wrong + " faults");
        if (test.wrong != 0) {
            System.exit(1);
        }
    }

    private int compareCalls(String readme, String program) {
        Map<String, String> told = new TreeMap<>();
        Matcher entry = TOLD.matcher(readme);
        while (entry.find()) {
            told.put(entry.group(1), entry.group(2));
        }
        int calls = 0;
        Matcher declared = DECLARED.matcher(program);
        while (declared.find()) {
            calls++;
            String text = told.remove(declared.group(1));
            if (text == null) {
                complain("README.md does not tell " + declared.group(1));
            } else if (declared.group(2) != null) {
                requireExceptions(declared.group(1), declared.group(2), text);
            }
        }
        for (String call : told.keySet()) {
            complain("README.md tells a call that the program does not have: " + call);
        }
        if (calls == 0) {
            complain("no call was found in the program");
        }
        return calls;
    }

    /** What it means that a session waits, or that there is none, is told once for all calls. */
    private void requireExceptions(String call, String thrown, String text) {
        for (String name : thrown.split(", ")) {
            boolean toldOnce = name.equals("IndexOutOfBoundsException") || name.equals("IllegalStateException");
            if (!toldOnce && !text.contains(name + ":")) {
                complain("README.md does not tell when " + call + " throws " + name);
            }
        }
    }

    private int playExample(String readme) {
        Matcher made = NEW_BOARD.matcher(readme);
        if (!made.find()) {
            complain("README.md has no example");
            return 0;
        }
        Calls board = new Calls(new JobBoard(Integer.parseInt(made.group(1))));
        int answers = 0;
        Matcher call = CALL.matcher(readme);
        while (call.find()) {
            answers++;
            String got = board.call(call.group(1), call.group(2).split(", "));
            if (!got.equals(call.group(3))) {
                complain("README.md: " + call.group() + ", but the answer is " + got);
            }
        }
        if (answers == 0) {
            complain("the example in README.md has no calls");
        }
        return answers;
    }

    private void complain(String text) {
        wrong++;
        System.out.println(text);
    }
}
