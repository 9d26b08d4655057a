/** All rows are made with the board and used again, because all calls of a run share one room for what they make. */
public final class JobBoard {
    public static final int NONE = -1;

    private static final int MAX_SESSIONS = 4;
    private static final int MAX_FIELDS = 4;
    private static final int MAX_TUPLES = 20;
    private static final int MAX_DEALS = 4;
    private static final int MAX_ORDERS = 6;
    private static final int MAX_REPORTS = 5;
    private static final int MAX_SPAN = 1000;

    private static final int PATTERNS = 3;
    private static final int VARIABLES = 4;

    private static final int NUMBER = 0;
    private static final int REFERENCE = 2;

    private static final int TAKE = 1;
    private static final int WAIT = 2;
    private static final int WAITS_NOW = 0;

    private static final int IDLE = 0;
    private static final int WAITING = 1;
    private static final int SERVED = 2;
    private static final int CUT_OFF = 3;

    private static final int COUNT = 0;
    private static final int SUM = 1;
    private static final int LEAST = 2;
    private static final int GREATEST = 3;

    private static final int ORDER_IS_OVER = -2;

    private final Session[] sessions;
    private final Board board;
    private final Line line;
    private final Order[] orders;
    private int orderCount;
    private int time;

    /** What a search has found so far: a session's own finding changes only when the whole call is sure to succeed. */
    private final Finding trial;

    public JobBoard(int sessions) {
        int n = Math.max(1, Math.min(MAX_SESSIONS, sessions));
        this.sessions = new Session[n];
        for (int s = 0; s < n; s++) {
            this.sessions[s] = new Session(s);
        }
        board = new Board();
        line = new Line();
        orders = new Order[MAX_ORDERS];
        for (int i = 0; i < MAX_ORDERS; i++) {
            orders[i] = new Order();
        }
        trial = new Finding();
    }

    public int field(int s, int kind, long value) throws IndexOutOfBoundsException, IllegalStateException, IllegalArgumentException, UnsupportedOperationException {
        Session who = readySession(s);
        if (kind < NUMBER || kind > REFERENCE) {
            throw new IllegalArgumentException();
        }
        if (who.draft.count >= MAX_FIELDS) {
            throw new UnsupportedOperationException();
        }
        return who.draft.append(kind, value);
    }

    public int form(int s, int p, int code, long a, long b) throws IndexOutOfBoundsException, IllegalStateException, IllegalArgumentException, UnsupportedOperationException {
        Session who = readySession(s);
        if (p < 0 || p >= PATTERNS || !Pattern.isForm(code, a)) {
            throw new IllegalArgumentException();
        }
        Pattern pattern = who.patterns[p];
        if (pattern.count >= MAX_FIELDS) {
            throw new UnsupportedOperationException();
        }
        return pattern.append(code, a, b);
    }

    public int forget(int s, int what) throws IndexOutOfBoundsException, IllegalStateException, IllegalArgumentException {
        Session who = readySession(s);
        if (what < -1 || what >= PATTERNS) {
            throw new IllegalArgumentException();
        }
        return what == -1 ? who.draft.empty() : who.patterns[what].empty();
    }

    public int put(int s, int lease) throws IndexOutOfBoundsException, IllegalStateException, IllegalArgumentException, UnsupportedOperationException {
        Session who = readySession(s);
        if (who.draft.count == 0 || !isSpan(lease)) {
            throw new IllegalArgumentException();
        }
        if (board.isFull()) {
            throw new UnsupportedOperationException();
        }
        return placeDraft(who, leaseEnd(lease));
    }

    public int find(int s, int joined, int how) throws IndexOutOfBoundsException, IllegalStateException, IllegalArgumentException {
        Session who = readySession(s);
        if (how < 0 || how > TAKE + WAIT || !who.hasPatterns(joined)) {
            throw new IllegalArgumentException();
        }
        who.ask(joined, (how & TAKE) != 0);
        if (searchFor(who, joined)) {
            grant(who);
            return who.finding.numberFor(0);
        }
        if ((how & WAIT) == 0) {
            return NONE;
        }
        who.state = WAITING;
        line.append(s);
        return WAITS_NOW;
    }

    public boolean stop(int s) throws IndexOutOfBoundsException {
        Session who = sessionAt(s);
        if (who.state != WAITING) {
            return false;
        }
        endWait(who, IDLE);
        return true;
    }

    public int swap(int s) throws IndexOutOfBoundsException, IllegalStateException, IllegalArgumentException, UnsupportedOperationException {
        Session who = readySession(s);
        if (who.draft.count == 0 || !who.hasPatterns(1)) {
            throw new IllegalArgumentException();
        }
        boolean hit = searchFor(who, 1);
        if (hit && who.deals > 0 && board.isFull()) {
            throw new UnsupportedOperationException();
        }
        who.ask(1, true);
        if (!hit) {
            return NONE;
        }
        grant(who);
        return placeDraft(who, 0);
    }

    public long fold(int s, int i, int what) throws IndexOutOfBoundsException, IllegalStateException, IllegalArgumentException {
        Session who = readySession(s);
        if (!who.hasPatterns(1) || i < 0 || i >= MAX_FIELDS || what < COUNT || what > GREATEST) {
            throw new IllegalArgumentException();
        }
        long result = 0;
        boolean any = false;
        for (int row = 0; row < board.used; row++) {
            Tuple t = board.rows[row];
            if (!t.isSeenBy(s) || !fitsAlone(who.patterns[0], t)) {
                continue;
            }
            if (what == COUNT) {
                result++;
            } else if (t.fields.kindAt(i) == NUMBER) {
                long value = t.fields.valueAt(i);
                result = any ? combine(what, result, value) : value;
                any = true;
            }
        }
        return result;
    }

    public int order(int s) throws IndexOutOfBoundsException, IllegalStateException, IllegalArgumentException, UnsupportedOperationException {
        Session who = readySession(s);
        if (!who.hasPatterns(1)) {
            throw new IllegalArgumentException();
        }
        if (orderCount >= MAX_ORDERS) {
            throw new UnsupportedOperationException();
        }
        orders[orderCount].pattern.copyFrom(who.patterns[0]);
        orderCount++;
        return orderCount - 1;
    }

    public int collect(int order) throws IndexOutOfBoundsException {
        if (order < 0 || order >= orderCount) {
            throw new IndexOutOfBoundsException();
        }
        return orders[order].takeOldest();
    }

    public int open(int s) throws IndexOutOfBoundsException, IllegalStateException, UnsupportedOperationException {
        Session who = readySession(s);
        if (who.deals >= MAX_DEALS) {
            throw new UnsupportedOperationException();
        }
        who.deals++;
        return who.deals;
    }

    public int commit(int s) throws IndexOutOfBoundsException, IllegalStateException {
        Session who = readySession(s);
        if (who.deals == 0) {
            return NONE;
        }
        int touched = board.countInDeal(s, who.deals);
        who.deals--;
        if (who.deals > 0) {
            board.handOver(s, who.deals + 1);
        } else {
            settle(s);
        }
        return touched;
    }

    public int abandon(int s) throws IndexOutOfBoundsException, IllegalStateException {
        Session who = readySession(s);
        if (who.deals == 0) {
            return NONE;
        }
        int touched = board.countInDeal(s, who.deals);
        if (abandonDownTo(who, who.deals)) {
            serveLine();
        }
        return touched;
    }

    public boolean renew(int s, int number, int lease) throws IndexOutOfBoundsException, IllegalStateException, IllegalArgumentException {
        readySession(s);
        if (!isSpan(lease)) {
            throw new IllegalArgumentException();
        }
        Tuple t = board.lookUp(number);
        if (t == null || !t.isSeenBy(s)) {
            return false;
        }
        t.leaseEnd = leaseEnd(lease);
        return true;
    }

    public int tick(int n) throws IllegalArgumentException {
        if (!isSpan(n)) {
            throw new IllegalArgumentException();
        }
        time += n;
        int ended = 0;
        boolean freed = false;
        for (int row = 0; row < board.used; row++) {
            Tuple t = board.rows[row];
            if (t.onBoard && t.isOverAt(time)) {
                freed |= endTuple(t);
                ended++;
            }
        }
        if (freed) {
            serveLine();
        }
        return ended;
    }

    public int now() {
        return time;
    }

    public int session(int s, int what) throws IndexOutOfBoundsException {
        Session who = sessionAt(s);
        switch (what) {
            case 0:
                return who.state;
            case 1:
                return who.deals;
            case 2:
                return who.draft.count;
            case 3:
            case 4:
            case 5:
                return who.patterns[what - 3].count;
            case 6:
                return line.placeOf(s);
            default:
                return NONE;
        }
    }

    public long found(int s, int what) throws IndexOutOfBoundsException {
        Finding finding = sessionAt(s).finding;
        if (what >= 0 && what <= 2) {
            return finding.numberFor(what);
        }
        if (what >= 3 && what <= 6) {
            return finding.kindOf(what - 3);
        }
        if (what >= 7 && what <= 10) {
            return finding.valueOf(what - 7);
        }
        return NONE;
    }

    public int seen(int s, int k) throws IndexOutOfBoundsException {
        sessionAt(s);
        int before = 0;
        for (int row = 0; row < board.used; row++) {
            Tuple t = board.rows[row];
            if (t.isSeenBy(s)) {
                if (before == k) {
                    return t.number;
                }
                before++;
            }
        }
        return NONE;
    }

    public long about(int number, int what) {
        Tuple t = board.lookUp(number);
        if (t == null) {
            return NONE;
        }
        switch (what) {
            case 0:
                return t.fields.count;
            case 1:
                return t.leaseEnd;
            case 2:
                return t.putSession;
            case 3:
                return t.takenSession;
            default:
                return what >= 8 ? t.fields.valueAt(what - 8) : t.fields.kindAt(what - 4);
        }
    }

    private Session sessionAt(int s) {
        if (s < 0 || s >= sessions.length) {
            throw new IndexOutOfBoundsException();
        }
        return sessions[s];
    }

    private Session readySession(int s) {
        Session who = sessionAt(s);
        if (who.state == WAITING) {
            throw new IllegalStateException();
        }
        return who;
    }

    private static boolean isSpan(int n) {
        return n >= 0 && n <= MAX_SPAN;
    }

    private int leaseEnd(int lease) {
        return lease == 0 ? 0 : time + lease;
    }

    private static long combine(int what, long result, long value) {
        if (what == SUM) {
            return result + value;
        }
        return what == LEAST ? Math.min(result, value) : Math.max(result, value);
    }

    private int placeDraft(Session who, int leaseEnd) {
        Tuple t = board.add(who.draft, leaseEnd);
        if (who.deals > 0) {
            t.putInto(who.id, who.deals);
        } else {
            report(t);
            serveLine();
        }
        return t.number;
    }

    private boolean fitsAlone(Pattern pattern, Tuple t) {
        trial.clear();
        return pattern.fits(t.fields, trial);
    }

    private boolean searchFor(Session who, int joined) {
        trial.clear();
        return extend(who, joined, 0);
    }

    /** Going through the rows by rising numbers, deepest pattern fastest, meets the least tuples first. */
    private boolean extend(Session who, int joined, int p) {
        if (p >= joined) {
            return true;
        }
        for (int row = 0; row < board.used; row++) {
            Tuple t = board.rows[row];
            if (!t.isSeenBy(who.id) || trial.hasNumber(t.number)) {
                continue;
            }
            int boundBefore = trial.bound;
            if (who.patterns[p].fits(t.fields, trial)) {
                trial.numbers[p] = t.number;
                if (extend(who, joined, p + 1)) {
                    return true;
                }
                trial.numbers[p] = NONE;
            }
            trial.bound = boundBefore;
        }
        return false;
    }

    private void grant(Session who) {
        who.finding.copyFrom(trial);
        if (!who.takes) {
            return;
        }
        for (int p = 0; p < who.joined; p++) {
            Tuple t = board.lookUp(trial.numberFor(p));
            if (t != null) {
                t.takeFor(who.id, who.deals);
            }
        }
    }

    private void report(Tuple t) {
        for (int i = 0; i < orderCount; i++) {
            if (fitsAlone(orders[i].pattern, t)) {
                orders[i].addReport(t.number);
            }
        }
    }

    private void serveLine() {
        int place = 0;
        for (int left = line.count; left > 0; left--) {
            Session who = sessions[line.members[place]];
            if (searchFor(who, who.joined)) {
                grant(who);
                endWait(who, SERVED);
            } else {
                place++;
            }
        }
    }

    private void endWait(Session who, int state) {
        who.state = state;
        line.remove(who.id);
    }

    /** All that was put in the deal comes at once, so sessions are served only when the last of it stands outside. */
    private void settle(int s) {
        boolean came = false;
        for (int row = 0; row < board.used; row++) {
            Tuple t = board.rows[row];
            if (t.isTakenBy(s, 1)) {
                t.onBoard = false;
            } else if (t.isPutIn(s, 1)) {
                t.putOutside();
                report(t);
                came = true;
            }
        }
        if (came) {
            serveLine();
        }
    }

    private boolean abandonDownTo(Session who, int deal) {
        boolean freed = false;
        for (int last = who.deals; last >= deal; last--) {
            freed |= board.undo(who.id, last);
        }
        who.deals = deal - 1;
        return freed;
    }

    private boolean endTuple(Tuple t) {
        boolean freed = false;
        if (t.isTaken()) {
            Session taker = sessions[t.takenSession];
            freed = abandonDownTo(taker, t.takenDeal);
            if (taker.state == WAITING) {
                endWait(taker, CUT_OFF);
            }
        }
        t.onBoard = false;
        return freed;
    }

    private static final class Fields {
        int count;
        final int[] kinds = new int[MAX_FIELDS];
        final long[] values = new long[MAX_FIELDS];

        int append(int kind, long value) {
            kinds[count] = kind;
            values[count] = value;
            count++;
            return count;
        }

        int empty() {
            int had = count;
            count = 0;
            return had;
        }

        void copyFrom(Fields other) {
            count = other.count;
            System.arraycopy(other.kinds, 0, kinds, 0, MAX_FIELDS);
            System.arraycopy(other.values, 0, values, 0, MAX_FIELDS);
        }

        int kindAt(int i) {
            return i >= 0 && i < count ? kinds[i] : NONE;
        }

        long valueAt(int i) {
            return i >= 0 && i < count ? values[i] : NONE;
        }
    }

    /** A deal is known by its session and how many that session had open with it; the deal NONE means no deal. */
    private static final class Tuple {
        boolean onBoard;
        int number;
        int leaseEnd;
        int putSession;
        int putDeal;
        int takenSession;
        int takenDeal;
        final Fields fields = new Fields();

        void begin(int number, Fields draft, int leaseEnd) {
            onBoard = true;
            this.number = number;
            this.leaseEnd = leaseEnd;
            fields.copyFrom(draft);
            putOutside();
            giveBack();
        }

        boolean isSeenBy(int s) {
            return onBoard && !isTaken() && (putDeal == NONE || putSession == s);
        }

        boolean isOverAt(int time) {
            return leaseEnd != 0 && time >= leaseEnd;
        }

        boolean isTaken() {
            return takenDeal != NONE;
        }

        boolean isPutIn(int s, int deal) {
            return onBoard && putSession == s && putDeal == deal;
        }

        boolean isTakenBy(int s, int deal) {
            return onBoard && takenSession == s && takenDeal == deal;
        }

        void putInto(int s, int deal) {
            putSession = s;
            putDeal = deal;
        }

        void putOutside() {
            putInto(NONE, NONE);
        }

        void takeFor(int s, int deals) {
            if (deals == 0) {
                onBoard = false;
            } else {
                takenSession = s;
                takenDeal = deals;
            }
        }

        void giveBack() {
            takenSession = NONE;
            takenDeal = NONE;
        }
    }

    /** The rows hold tuples by rising numbers; those that are gone stay as gaps, so that a loop over the rows may let tuples go. */
    private static final class Board {
        final Tuple[] rows = new Tuple[MAX_TUPLES];
        int used;
        int lastNumber;

        Board() {
            for (int row = 0; row < MAX_TUPLES; row++) {
                rows[row] = new Tuple();
            }
        }

        boolean isFull() {
            int count = 0;
            for (int row = 0; row < used; row++) {
                if (rows[row].onBoard) {
                    count++;
                }
            }
            return count >= MAX_TUPLES;
        }

        Tuple add(Fields draft, int leaseEnd) {
            closeGaps();
            Tuple t = rows[used];
            used++;
            lastNumber++;
            t.begin(lastNumber, draft, leaseEnd);
            return t;
        }

        Tuple lookUp(int number) {
            for (int row = 0; row < used; row++) {
                if (rows[row].onBoard && rows[row].number == number) {
                    return rows[row];
                }
            }
            return null;
        }

        int countInDeal(int s, int deal) {
            int count = 0;
            for (int row = 0; row < used; row++) {
                if (rows[row].isPutIn(s, deal) || rows[row].isTakenBy(s, deal)) {
                    count++;
                }
            }
            return count;
        }

        void handOver(int s, int deal) {
            for (int row = 0; row < used; row++) {
                Tuple t = rows[row];
                if (t.isPutIn(s, deal)) {
                    t.putInto(s, deal - 1);
                }
                if (t.isTakenBy(s, deal)) {
                    t.takeFor(s, deal - 1);
                }
            }
        }

        /** Answers whether a tuple is not taken any more, for then sessions must be served. */
        boolean undo(int s, int deal) {
            boolean freed = false;
            for (int row = 0; row < used; row++) {
                Tuple t = rows[row];
                if (t.isPutIn(s, deal)) {
                    t.onBoard = false;
                } else if (t.isTakenBy(s, deal)) {
                    t.giveBack();
                    freed = true;
                }
            }
            return freed;
        }

        /** A gap changes places with a tuple behind it, so that its row is used again and none is made anew. */
        private void closeGaps() {
            int kept = 0;
            for (int row = 0; row < used; row++) {
                Tuple t = rows[row];
                if (t.onBoard) {
                    rows[row] = rows[kept];
                    rows[kept] = t;
                    kept++;
                }
            }
            used = kept;
        }
    }

    private static final class Finding {
        final int[] numbers = new int[PATTERNS];
        /** Bit v is 1 while variable v is bound: a search goes back by putting the earlier bits in place again. */
        int bound;
        final int[] kinds = new int[VARIABLES];
        final long[] values = new long[VARIABLES];

        Finding() {
            for (int p = 0; p < PATTERNS; p++) {
                numbers[p] = NONE;
            }
        }

        void clear() {
            for (int p = 0; p < PATTERNS; p++) {
                numbers[p] = NONE;
            }
            bound = 0;
        }

        void copyFrom(Finding other) {
            System.arraycopy(other.numbers, 0, numbers, 0, PATTERNS);
            bound = other.bound;
            System.arraycopy(other.kinds, 0, kinds, 0, VARIABLES);
            System.arraycopy(other.values, 0, values, 0, VARIABLES);
        }

        boolean hasNumber(int number) {
            for (int p = 0; p < PATTERNS; p++) {
                if (numbers[p] == number) {
                    return true;
                }
            }
            return false;
        }

        int numberFor(int p) {
            return p >= 0 && p < PATTERNS ? numbers[p] : NONE;
        }

        boolean isBound(int v) {
            return v >= 0 && v < VARIABLES && (bound >> v & 1) == 1;
        }

        int kindOf(int v) {
            return isBound(v) ? kinds[v] : NONE;
        }

        long valueOf(int v) {
            return isBound(v) ? values[v] : 0;
        }

        boolean bindOrCompare(int v, int kind, long value) {
            if (v < 0 || v >= VARIABLES) {
                return false;
            }
            int bit = 1 << v;
            if ((bound & bit) == 0) {
                bound |= bit;
                kinds[v] = kind;
                values[v] = value;
            }
            return kinds[v] == kind && values[v] == value;
        }
    }

    private static final class Pattern {
        static final int HOLDS = 0;
        static final int IS_KIND = 1;
        static final int IS = 2;
        static final int IS_NOT = 3;
        static final int BELOW = 4;
        static final int ABOVE = 5;
        static final int FROM_TO = 6;
        static final int VARIABLE = 7;
        static final int FOUND_BEFORE = 8;
        static final int HAS_BIT = 9;

        int count;
        final int[] codes = new int[MAX_FIELDS];
        final long[] as = new long[MAX_FIELDS];
        final long[] bs = new long[MAX_FIELDS];

        static boolean isForm(int code, long a) {
            switch (code) {
                case IS_KIND:
                case IS:
                case IS_NOT:
                case HAS_BIT:
                    return a >= NUMBER && a <= REFERENCE;
                case VARIABLE:
                    return a >= 0 && a < VARIABLES;
                case FOUND_BEFORE:
                    return a >= 0 && a < PATTERNS - 1;
                default:
                    return code >= HOLDS && code <= HAS_BIT;
            }
        }

        int append(int code, long a, long b) {
            codes[count] = code;
            as[count] = a;
            bs[count] = b;
            count++;
            return count;
        }

        int empty() {
            int had = count;
            count = 0;
            return had;
        }

        void copyFrom(Pattern other) {
            count = other.count;
            System.arraycopy(other.codes, 0, codes, 0, MAX_FIELDS);
            System.arraycopy(other.as, 0, as, 0, MAX_FIELDS);
            System.arraycopy(other.bs, 0, bs, 0, MAX_FIELDS);
        }

        /** Binds as it goes, also when it fails half-way: who looks on puts back what was bound before. */
        boolean fits(Fields fields, Finding finding) {
            if (fields.count != count) {
                return false;
            }
            for (int i = 0; i < count; i++) {
                if (!holds(i, fields.kinds[i], fields.values[i], finding)) {
                    return false;
                }
            }
            return true;
        }

        private boolean holds(int i, int kind, long value, Finding finding) {
            long a = as[i];
            long b = bs[i];
            switch (codes[i]) {
                case IS_KIND:
                    return kind == a;
                case IS:
                    return kind == a && value == b;
                case IS_NOT:
                    return kind != a || value != b;
                case BELOW:
                    return kind == NUMBER && value < b;
                case ABOVE:
                    return kind == NUMBER && value > b;
                case FROM_TO:
                    return kind == NUMBER && value >= a && value <= b;
                case VARIABLE:
                    return finding.bindOrCompare((int) a, kind, value);
                case FOUND_BEFORE:
                    // NONE is no tuple's number, but a reference may well have it as its value.
                    return kind == REFERENCE && value != NONE && value == finding.numberFor((int) a);
                case HAS_BIT:
                    return kind == a && value >= 0 && value <= 63 && (b >>> value & 1) == 1;
                default:
                    return true;
            }
        }
    }

    private static final class Session {
        final int id;
        final Fields draft = new Fields();
        final Pattern[] patterns = new Pattern[PATTERNS];
        final Finding finding = new Finding();
        int deals;
        int state = IDLE;
        int joined;
        boolean takes;

        Session(int id) {
            this.id = id;
            for (int p = 0; p < PATTERNS; p++) {
                patterns[p] = new Pattern();
            }
        }

        boolean hasPatterns(int joined) {
            if (joined < 1 || joined > PATTERNS) {
                return false;
            }
            for (int p = 0; p < joined; p++) {
                if (patterns[p].count == 0) {
                    return false;
                }
            }
            return true;
        }

        void ask(int joined, boolean takes) {
            this.joined = joined;
            this.takes = takes;
            state = IDLE;
            finding.clear();
        }
    }

    private static final class Order {
        final Pattern pattern = new Pattern();
        final int[] reports = new int[MAX_REPORTS];
        int count;
        boolean over;

        void addReport(int number) {
            if (count >= MAX_REPORTS) {
                over = true;
            }
            if (!over) {
                reports[count] = number;
                count++;
            }
        }

        int takeOldest() {
            if (count == 0) {
                return over ? ORDER_IS_OVER : NONE;
            }
            int oldest = reports[0];
            count--;
            System.arraycopy(reports, 1, reports, 0, count);
            return oldest;
        }
    }

    private static final class Line {
        final int[] members = new int[MAX_SESSIONS];
        int count;

        void append(int s) {
            members[count] = s;
            count++;
        }

        int placeOf(int s) {
            for (int place = 0; place < count; place++) {
                if (members[place] == s) {
                    return place;
                }
            }
            return NONE;
        }

        void remove(int s) {
            int place = placeOf(s);
            if (place == NONE) {
                return;
            }
            count--;
            System.arraycopy(members, place + 1, members, place, count - place);
        }
    }
}
