/** Brings to light what a board holds, the drafts, patterns, deals, line and orders too; the board is of no use after that. */
final class Probe {
    private static final int SESSIONS = 4;
    private static final int DEALS = 4;
    private static final int ORDERS = 6;
    private static final int COLLECTS = 7;
    private static final int FIELDS = 4;
    private static final int PATTERNS = 3;
    private static final long[][] SAMPLES = {
        {0, 0}, {0, 1}, {0, 5}, {0, 6}, {0, Long.MIN_VALUE}, {0, Long.MAX_VALUE}, {1, 5}, {1, 9}, {2, 1}, {2, 5}};

    private final Calls board;
    private final StringBuilder text = new StringBuilder();

    private Probe(Calls board) {
        this.board = board;
    }

    static String of(Calls board) {
        Probe probe = new Probe(board);
        probe.look();
        probe.collectAll();
        probe.endWaitsAndDeals();
        probe.search();
        probe.clearBoard();
        probe.putDrafts();
        probe.searchSamples();
        return probe.text.toString();
    }

    private void tell(String name, long... arguments) {
        String[] words = new String[arguments.length];
        for (int i = 0; i < words.length; i++) {
            words[i] = Long.toString(arguments[i]);
        }
        text.append(board.call(name, words)).append(' ');
    }

    private void look() {
        text.append(board.snapshot()).append('\n');
    }

    private void collectAll() {
        for (int order = 0; order <= ORDERS; order++) {
            for (int i = 0; i < COLLECTS; i++) {
                tell("collect", order);
            }
        }
    }

    private void endWaitsAndDeals() {
        for (int s = 0; s < SESSIONS; s++) {
            tell("stop", s);
        }
        for (int s = 0; s < SESSIONS; s++) {
            for (int deal = 0; deal <= DEALS; deal++) {
                tell("abandon", s);
            }
        }
        look();
    }

    private void search() {
        for (int s = 0; s < SESSIONS; s++) {
            for (int joined = 1; joined <= PATTERNS; joined++) {
                tell("find", s, joined, 0);
                for (int what = 0; what <= 10; what++) {
                    tell("found", s, what);
                }
            }
            for (int i = 0; i < FIELDS; i++) {
                tell("fold", s, i, 0);
                tell("fold", s, i, 1);
            }
        }
    }

    private void clearBoard() {
        for (int number = 1; number <= board.highestNumber(); number++) {
            tell("renew", 0, number, 1);
        }
        tell("tick", 1);
    }

    private void putDrafts() {
        for (int s = 0; s < SESSIONS; s++) {
            tell("put", s, 0);
            look();
        }
        collectAll();
        clearBoard();
    }

    private void searchSamples() {
        for (int fields = 1; fields <= FIELDS; fields++) {
            for (int first = 0; first < SAMPLES.length; first++) {
                tell("forget", 0, -1);
                for (int i = 0; i < fields; i++) {
                    long[] sample = SAMPLES[(first + i * i) % SAMPLES.length];
                    tell("field", 0, sample[0], sample[1]);
                }
                tell("put", 0, 0);
            }
            search();
            collectAll();
            clearBoard();
        }
    }
}
