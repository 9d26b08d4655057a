import java.util.ArrayDeque;
import java.util.ArrayList;
import java.util.Arrays;
import java.util.Collections;
import java.util.Deque;
import java.util.List;
import java.util.Map;
import java.util.Random;
import java.util.TreeMap;

/** Random runs, always the same, on a board and on a Model: every answer is compared. */
public final class ModelTest {
    private static final int RUNS = 1000;
    private static final int CALLS = 512;
    private static final int CALLS_BETWEEN_SNAPSHOTS = 32;

    /** What the runs must come to, or else they would test little. */
    private static final List<String> MUST_HAPPEN = List.of(
            "found by 1, read", "found by 1, taken", "found by 2, read", "found by 2, taken",
            "found by 3, read", "found by 3, taken",
            "served by 1, read", "served by 1, taken", "served by 2, read", "served by 2, taken",
            "served by 3, read", "served by 3, taken", "served with 0 deals", "served with 1 deals",
            "served with 2 deals", "served with 3 deals", "served with 4 deals", "2 wait", "3 wait", "4 wait",
            "an order is over", "no room to swap", "swapped with 20", "swapped with 0", "several come",
            "ended deal 1 of 1", "ended deal 1 of 2", "ended deal 2 of 3", "ended deal 4 of 4", "cut off",
            "gone before it ended, perhaps", "served at last");

    /** Calls and how often they come, in runs of each of several tempers. */
    private static final String[] NAMES = {
        "field", "form", "forget", "put", "find", "stop", "swap", "fold", "order", "collect", "open", "commit",
        "abandon", "renew", "tick", "now", "session", "found", "seen", "about"};
    private static final int[][] TEMPERS = {
        {1, 1, 8, 30, 20, 12, 6, 4, 1, 4, 4, 5, 4, 4, 5, 1, 1, 1, 1, 1},
        {1, 1, 6, 60, 6, 12, 12, 4, 1, 4, 4, 5, 2, 4, 1, 1, 1, 1, 1, 1},
        {1, 1, 4, 40, 30, 15, 2, 2, 1, 2, 8, 8, 3, 3, 6, 1, 1, 1, 1, 1},
        {1, 1, 2, 30, 20, 10, 2, 2, 2, 2, 16, 12, 4, 3, 3, 1, 1, 1, 1, 1},
    };

    /** Codes of forms that often hold. */
    private static final long[] PERMISSIVE = {0, 1, 3, 7};

    private final Random random;
    private final int[] temper;
    private final boolean narrow;
    private final int sessions;
    /** Calls that are sure to come next: an emptied draft or pattern is mostly filled again. */
    private final Deque<String[]> next = new ArrayDeque<>();
    private int highest;

    private ModelTest(int seed) {
        random = new Random(seed);
        temper = TEMPERS[random.nextInt(TEMPERS.length)];
        narrow = random.nextBoolean();
        sessions = random.nextInt(8) == 0 ? random.nextInt(7) - 1 : 2 + random.nextInt(3);
        for (int s = 0; s < 4; s++) {
            for (int what = -1; what <= 2; what++) {
                refill(s, what);
            }
        }
    }

    public static void main(String[] args) {
        Map<String, Integer> happened = new TreeMap<>();
        for (int seed = 0; seed < RUNS; seed++) {
            String fault = new ModelTest(seed).play(happened);
            if (fault != null) {
                System.out.println(fault);
                System.exit(1);
            }
        }
        List<String> missing = new ArrayList<>(MUST_HAPPEN);
        missing.removeAll(happened.keySet());
        if (args.length > 0) {
            System.out.println(happened);
        }
        if (!missing.isEmpty()) {
            System.out.println("never came up: " + missing);
            System.exit(1);
        }
        System.out.println(RUNS + " random runs answer as the model does");
    }

    /** The calls up to the first wrong answer, or null if there is none. */
    private String play(Map<String, Integer> happened) {
        Model model = new Model(sessions);
        Calls due = new Calls(model);
        Calls got = new Calls(new JobBoard(sessions));
        StringBuilder told = new StringBuilder("JobBoard(" + sessions + ")\n");
        for (int i = 1; i <= CALLS; i++) {
            String[] call = next.isEmpty() ? pickCall() : next.remove();
            String name = call[0];
            String[] arguments = Arrays.copyOfRange(call, 1, call.length);
            String answer = got.call(name, arguments);
            String want = due.call(name, arguments);
            told.append(name).append('(').append(String.join(", ", arguments)).append(") answered ").append(answer).append('\n');
            if (!answer.equals(want)) {
                return told.append("due is ").append(want).toString();
            }
            if ((name.equals("put") || name.equals("swap")) && Character.isDigit(answer.charAt(0))) {
                highest = Integer.parseInt(answer);
            }
            if (i % CALLS_BETWEEN_SNAPSHOTS == 0 && !got.snapshot().equals(due.snapshot())) {
                return told.append("shows\n").append(got.snapshot()).append("\ndue is\n").append(due.snapshot()).toString();
            }
        }
        model.happened.forEach((what, times) -> happened.merge(what, times, Integer::sum));
        return null;
    }

    private String pickName() {
        int sum = 0;
        for (int weight : temper) {
            sum += weight;
        }
        int left = random.nextInt(sum);
        int i = 0;
        while (left >= temper[i]) {
            left -= temper[i];
            i++;
        }
        return NAMES[i];
    }

    private String[] pickCall() {
        String name = pickName();
        List<Long> arguments = arguments(name);
        if (name.equals("forget")) {
            refill(arguments.get(0), arguments.get(1));
        }
        return words(name, arguments);
    }

    private static String[] words(String name, List<Long> arguments) {
        List<String> words = new ArrayList<>(List.of(name));
        arguments.forEach(x -> words.add(Long.toString(x)));
        return words.toArray(new String[0]);
    }

    private void refill(long s, long what) {
        int dice = random.nextInt(20);
        int times = dice == 0 ? 0 : dice == 1 ? 3 : dice == 2 ? 4 : dice < 7 ? 2 : 1;
        for (int i = 0; i < times; i++) {
            if (what == -1) {
                next.add(words("field", List.of(s, number(0, 2), value())));
            } else {
                next.add(words("form", formArguments(s, what)));
            }
        }
    }

    private List<Long> arguments(String name) {
        return switch (name) {
            case "field" -> List.of(who(), number(0, 2), value());
            case "form" -> formArguments(who(), number(0, 2));
            case "forget" -> List.of(who(), number(-1, 2));
            case "put" -> List.of(who(), random.nextBoolean() ? 0L : number(1, 9));
            case "find" -> findArguments();
            case "fold" -> List.of(who(), number(0, 3), number(0, 3));
            case "collect" -> List.of(number(0, 5));
            case "renew" -> List.of(who(), number(highest - 12, highest), number(0, 9));
            case "tick" -> List.of(number(0, 4));
            case "now" -> List.of();
            case "session" -> List.of(who(), number(0, 6));
            case "found" -> List.of(who(), number(0, 10));
            case "seen" -> List.of(who(), number(0, 12));
            case "about" -> List.of(number(highest - 12, highest), number(0, 11));
            default -> List.of(who());
        };
    }

    private List<Long> formArguments(long s, long p) {
        long code = random.nextBoolean() ? number(0, 9) : PERMISSIVE[random.nextInt(PERMISSIVE.length)];
        long a = switch ((int) code) {
            case 7 -> number(0, 3);
            case 8 -> number(0, 1);
            case 4, 5, 6 -> value();
            default -> number(0, 2);
        };
        long b = code == 9 ? random.nextLong() : value();
        return List.of(s, p, code, a, b);
    }

    /** Session 0 waits seldom, or else all would soon wait for each other. */
    private List<Long> findArguments() {
        long s = who();
        long joined = random.nextBoolean() ? 1 : number(1, 3);
        return List.of(s, joined, s == 0 && random.nextInt(10) != 0 ? number(0, 1) : number(0, 3));
    }

    private long who() {
        return number(0, Math.max(0, Math.min(3, sessions - 1)));
    }

    /** Mostly from .. to, now and then a little or far outside. */
    private long number(int from, int to) {
        int dice = random.nextInt(300);
        if (dice == 0) {
            return from - 1;
        }
        if (dice == 1) {
            return to + 1;
        }
        if (dice == 2) {
            return random.nextInt();
        }
        return from + random.nextInt(to - from + 1);
    }

    private long value() {
        int dice = random.nextInt(40);
        List<Long> odd = new ArrayList<>(List.of(Long.MIN_VALUE, Long.MAX_VALUE, -1L, 63L, 64L));
        Collections.shuffle(odd, random);
        if (dice == 0) {
            return odd.get(0);
        }
        if (dice < 12) {
            return highest - random.nextInt(8);
        }
        return random.nextInt(narrow ? 2 : 6);
    }
}
