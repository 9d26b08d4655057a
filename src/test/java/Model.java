import java.util.ArrayList;
import java.util.HashMap;
import java.util.LinkedList;
import java.util.List;
import java.util.Map;
import java.util.TreeMap;

/** The document written down a second time, by other means than the program's, for ModelTest to compare with. */
final class Model {
    record Cell(int kind, long value) { }

    record Form(int code, long a, long b) { }

    record Deal(int session, Deal around) { }

    record Hit(List<Integer> numbers, Map<Integer, Cell> variables) { }

    record Ask(int joined, boolean takes) { }

    private static final class Entry {
        List<Cell> cells;
        int end;
        Deal in;
        Deal by;
    }

    private static final class Party {
        final List<Cell> draft = new ArrayList<>();
        final List<List<Form>> patterns = List.of(new ArrayList<>(), new ArrayList<>(), new ArrayList<>());
        Deal last;
        Ask ask;
        String wait = "none";
        Hit hit = new Hit(List.of(), Map.of());
    }

    private static final class Standing {
        List<Form> forms;
        final LinkedList<Integer> reports = new LinkedList<>();
        boolean over;
    }

    final Map<String, Integer> happened = new TreeMap<>();
    private final List<Party> parties = new ArrayList<>();
    private final TreeMap<Integer, Entry> entries = new TreeMap<>();
    private final List<Integer> line = new ArrayList<>();
    private final List<Standing> standing = new ArrayList<>();
    private int given;
    private int clock;

    Model(int sessions) {
        int n = sessions < 1 ? 1 : sessions > 4 ? 4 : sessions;
        while (parties.size() < n) {
            parties.add(new Party());
        }
    }

    private void happens(String what) {
        happened.merge(what, 1, Integer::sum);
    }

    private Party any(int s) {
        if (s < 0 || s >= parties.size()) {
            throw new IndexOutOfBoundsException();
        }
        return parties.get(s);
    }

    private Party awake(int s) {
        Party party = any(s);
        if (line.contains(s)) {
            throw new IllegalStateException();
        }
        return party;
    }

    private static void argument(boolean good) {
        if (!good) {
            throw new IllegalArgumentException();
        }
    }

    private static void support(boolean good) {
        if (!good) {
            throw new UnsupportedOperationException();
        }
    }

    private static boolean among(long x, long from, long to) {
        return from <= x && x <= to;
    }

    public int field(int s, int kind, long value) {
        Party party = awake(s);
        argument(among(kind, 0, 2));
        support(party.draft.size() < 4);
        party.draft.add(new Cell(kind, value));
        return party.draft.size();
    }

    public int form(int s, int p, int code, long a, long b) {
        Party party = awake(s);
        argument(among(p, 0, 2) && among(code, 0, 9));
        if (code == 1 || code == 2 || code == 3 || code == 9) {
            argument(among(a, 0, 2));
        }
        if (code == 7) {
            argument(among(a, 0, 3));
        }
        if (code == 8) {
            argument(among(a, 0, 1));
        }
        List<Form> forms = party.patterns.get(p);
        support(forms.size() < 4);
        forms.add(new Form(code, a, b));
        return forms.size();
    }

    public int forget(int s, int what) {
        Party party = awake(s);
        argument(among(what, -1, 2));
        List<?> list = what < 0 ? party.draft : party.patterns.get(what);
        int had = list.size();
        list.clear();
        return had;
    }

    public int put(int s, int lease) {
        Party party = awake(s);
        argument(!party.draft.isEmpty() && among(lease, 0, 1000));
        support(entries.size() < 20);
        return enter(party, lease);
    }

    private int enter(Party party, int lease) {
        Entry entry = new Entry();
        entry.cells = List.copyOf(party.draft);
        entry.end = lease == 0 ? 0 : clock + lease;
        entry.in = party.last;
        given++;
        entries.put(given, entry);
        int number = given;
        if (entry.in == null) {
            come(List.of(number));
        }
        return number;
    }

    private void come(List<Integer> numbers) {
        for (int number : numbers) {
            for (Standing order : standing) {
                if (fit(order.forms, entries.get(number), List.of(), Map.of()) == null || order.over) {
                    continue;
                }
                if (order.reports.size() == 5) {
                    order.over = true;
                    happens("an order is over");
                } else {
                    order.reports.add(number);
                }
            }
        }
        serve();
    }

    private void serve() {
        for (int s : List.copyOf(line)) {
            Party party = parties.get(s);
            Hit hit = best(s, party.ask.joined);
            if (hit != null) {
                happens("served by " + party.ask.joined + (party.ask.takes ? ", taken" : ", read"));
                happens("served with " + depth(party.last) + " deals");
                line.remove(Integer.valueOf(s));
                party.wait = "served";
                have(party, hit);
            }
        }
    }

    private static int depth(Deal deal) {
        return deal == null ? 0 : 1 + depth(deal.around);
    }

    private void have(Party party, Hit hit) {
        party.hit = hit;
        for (int number : party.ask.takes ? hit.numbers : List.<Integer>of()) {
            if (party.last == null) {
                entries.remove(number);
            } else {
                entries.get(number).by = party.last;
            }
        }
    }

    private boolean sees(int s, Entry entry) {
        return entry.by == null && (entry.in == null || entry.in.session == s);
    }

    /** All hits are looked at and the least kept, where the program stops at the first. */
    private Hit best(int s, int joined) {
        List<Hit> hits = List.of(new Hit(List.of(), Map.of()));
        for (int p = 0; p < joined; p++) {
            List<Hit> longer = new ArrayList<>();
            for (Hit hit : hits) {
                for (Map.Entry<Integer, Entry> e : entries.descendingMap().entrySet()) {
                    if (hit.numbers.contains(e.getKey()) || !sees(s, e.getValue())) {
                        continue;
                    }
                    Map<Integer, Cell> bound = fit(parties.get(s).patterns.get(p), e.getValue(), hit.numbers, hit.variables);
                    if (bound != null) {
                        List<Integer> numbers = new ArrayList<>(hit.numbers);
                        numbers.add(e.getKey());
                        longer.add(new Hit(numbers, bound));
                    }
                }
            }
            hits = longer;
        }
        Hit least = null;
        for (Hit hit : hits) {
            if (least == null || isLess(hit.numbers, least.numbers)) {
                least = hit;
            }
        }
        return least;
    }

    private static boolean isLess(List<Integer> x, List<Integer> y) {
        for (int i = 0; i < x.size(); i++) {
            int order = x.get(i).compareTo(y.get(i));
            if (order != 0) {
                return order < 0;
            }
        }
        return false;
    }

    private static Map<Integer, Cell> fit(List<Form> forms, Entry entry, List<Integer> before, Map<Integer, Cell> bound) {
        if (forms.size() != entry.cells.size()) {
            return null;
        }
        Map<Integer, Cell> now = new HashMap<>(bound);
        for (int i = 0; i < forms.size(); i++) {
            Form form = forms.get(i);
            Cell cell = entry.cells.get(i);
            if (form.code == 7) {
                now.putIfAbsent((int) form.a, cell);
                if (!now.get((int) form.a).equals(cell)) {
                    return null;
                }
            } else if (!holds(form, cell, before)) {
                return null;
            }
        }
        return now;
    }

    private static boolean holds(Form form, Cell cell, List<Integer> before) {
        boolean number = cell.kind == 0;
        boolean same = cell.kind == form.a && cell.value == form.b;
        return switch (form.code) {
            case 0 -> true;
            case 1 -> cell.kind == form.a;
            case 2 -> same;
            case 3 -> !same;
            case 4 -> number && cell.value < form.b;
            case 5 -> number && cell.value > form.b;
            case 6 -> number && among(cell.value, form.a, form.b);
            case 8 -> cell.kind == 2 && form.a < before.size() && before.get((int) form.a) == cell.value;
            case 9 -> cell.kind == form.a && among(cell.value, 0, 63)
                    && java.math.BigInteger.valueOf(form.b).testBit((int) cell.value);
            default -> throw new AssertionError();
        };
    }

    public int find(int s, int joined, int how) {
        Party party = awake(s);
        argument(among(joined, 1, 3) && among(how, 0, 3));
        for (int p = 0; p < joined; p++) {
            argument(!party.patterns.get(p).isEmpty());
        }
        party.wait = "none";
        party.ask = new Ask(joined, how % 2 == 1);
        party.hit = new Hit(List.of(), Map.of());
        Hit hit = best(s, joined);
        if (hit != null) {
            happens("found by " + joined + (how % 2 == 1 ? ", taken" : ", read"));
            have(party, hit);
            return hit.numbers.get(0);
        }
        if (how < 2) {
            return -1;
        }
        line.add(s);
        happens(line.size() + " wait");
        return 0;
    }

    public boolean stop(int s) {
        any(s);
        return line.remove(Integer.valueOf(s));
    }

    public int swap(int s) {
        Party party = awake(s);
        argument(!party.draft.isEmpty() && !party.patterns.get(0).isEmpty());
        Hit hit = best(s, 1);
        if (hit != null && party.last != null && entries.size() == 20) {
            happens("no room to swap");
        }
        support(hit == null || party.last == null || entries.size() < 20);
        party.wait = "none";
        party.hit = new Hit(List.of(), Map.of());
        if (hit == null) {
            return -1;
        }
        happens("swapped with " + entries.size() / 20 * 20);
        party.ask = new Ask(1, true);
        have(party, hit);
        return enter(party, 0);
    }

    public long fold(int s, int i, int what) {
        Party party = awake(s);
        argument(!party.patterns.get(0).isEmpty() && among(i, 0, 3) && among(what, 0, 3));
        int count = 0;
        List<Long> values = new ArrayList<>();
        for (Entry entry : entries.values()) {
            if (sees(s, entry) && fit(party.patterns.get(0), entry, List.of(), Map.of()) != null) {
                count++;
                if (i < entry.cells.size() && entry.cells.get(i).kind == 0) {
                    values.add(entry.cells.get(i).value);
                }
            }
        }
        return switch (what) {
            case 0 -> count;
            case 1 -> values.stream().mapToLong(Long::longValue).sum();
            case 2 -> values.stream().mapToLong(Long::longValue).min().orElse(0);
            default -> values.stream().mapToLong(Long::longValue).max().orElse(0);
        };
    }

    public int order(int s) {
        Party party = awake(s);
        argument(!party.patterns.get(0).isEmpty());
        support(standing.size() < 6);
        Standing order = new Standing();
        order.forms = List.copyOf(party.patterns.get(0));
        standing.add(order);
        return standing.size() - 1;
    }

    public int collect(int order) {
        if (order < 0 || order >= standing.size()) {
            throw new IndexOutOfBoundsException();
        }
        Standing o = standing.get(order);
        return o.reports.isEmpty() ? o.over ? -2 : -1 : o.reports.removeFirst();
    }

    public int open(int s) {
        Party party = awake(s);
        support(depth(party.last) < 4);
        party.last = new Deal(s, party.last);
        return depth(party.last);
    }

    private int touched(Deal deal) {
        return (int) entries.values().stream().filter(e -> e.in == deal || e.by == deal).count();
    }

    public int commit(int s) {
        Party party = awake(s);
        Deal deal = party.last;
        if (deal == null) {
            return -1;
        }
        int touched = touched(deal);
        party.last = deal.around;
        if (deal.around == null) {
            entries.values().removeIf(e -> e.by == deal);
        }
        List<Integer> came = new ArrayList<>();
        entries.forEach((number, e) -> {
            if (e.by == deal) {
                e.by = deal.around;
            }
            if (e.in == deal) {
                e.in = deal.around;
                if (e.in == null) {
                    came.add(number);
                }
            }
        });
        happens(came.size() > 1 ? "several come" : came.isEmpty() ? "none comes" : "one comes");
        if (!came.isEmpty()) {
            come(came);
        }
        return touched;
    }

    /** Whether something is not taken any more. */
    private boolean drop(Party party) {
        Deal deal = party.last;
        party.last = deal.around;
        entries.values().removeIf(e -> e.in == deal);
        boolean back = false;
        for (Entry e : entries.values()) {
            if (e.by == deal) {
                e.by = null;
                back = true;
            }
        }
        return back;
    }

    public int abandon(int s) {
        Party party = awake(s);
        if (party.last == null) {
            return -1;
        }
        int touched = touched(party.last);
        if (drop(party)) {
            serve();
        }
        return touched;
    }

    public boolean renew(int s, int number, int lease) {
        awake(s);
        argument(among(lease, 0, 1000));
        Entry entry = entries.get(number);
        if (entry == null || !sees(s, entry)) {
            return false;
        }
        entry.end = lease == 0 ? 0 : clock + lease;
        return true;
    }

    public int tick(int n) {
        argument(among(n, 0, 1000));
        clock += n;
        int ended = 0;
        boolean back = false;
        for (int number : List.copyOf(entries.keySet())) {
            Entry entry = entries.get(number);
            if (entry == null) {
                happens("gone before it ended, perhaps");
                continue;
            }
            if (entry.end == 0 || entry.end > clock) {
                continue;
            }
            ended++;
            Deal deal = entry.by;
            if (deal != null) {
                back |= cut(deal);
            }
            entries.remove(number);
        }
        if (back) {
            int before = line.size();
            serve();
            happens(line.size() < before ? "served at last" : "not served at last");
        }
        return ended;
    }

    private boolean cut(Deal deal) {
        Party party = parties.get(deal.session);
        happens("ended deal " + depth(deal) + " of " + depth(party.last));
        boolean back = false;
        while (depth(party.last) >= depth(deal)) {
            back |= drop(party);
        }
        if (line.remove(Integer.valueOf(deal.session))) {
            party.wait = "cut off";
            happens("cut off");
        }
        return back;
    }

    public int now() {
        return clock;
    }

    public int session(int s, int what) {
        Party party = any(s);
        return switch (what) {
            case 0 -> line.contains(s) ? 1 : party.wait.equals("served") ? 2 : party.wait.equals("cut off") ? 3 : 0;
            case 1 -> depth(party.last);
            case 2 -> party.draft.size();
            case 3, 4, 5 -> party.patterns.get(what - 3).size();
            case 6 -> line.indexOf(s);
            default -> -1;
        };
    }

    public long found(int s, int what) {
        Hit hit = any(s).hit;
        if (among(what, 0, 2)) {
            return what < hit.numbers.size() ? hit.numbers.get(what) : -1;
        }
        if (among(what, 3, 6)) {
            return hit.variables.containsKey(what - 3) ? hit.variables.get(what - 3).kind : -1;
        }
        if (among(what, 7, 10)) {
            return hit.variables.containsKey(what - 7) ? hit.variables.get(what - 7).value : 0;
        }
        return -1;
    }

    public int seen(int s, int k) {
        any(s);
        List<Integer> numbers = new ArrayList<>();
        entries.forEach((number, e) -> {
            if (sees(s, e)) {
                numbers.add(number);
            }
        });
        return among(k, 0, numbers.size() - 1) ? numbers.get(k) : -1;
    }

    public long about(int number, int what) {
        Entry entry = entries.get(number);
        if (entry == null) {
            return -1;
        }
        int fields = entry.cells.size();
        if (among(what, 4, 3 + fields)) {
            return entry.cells.get(what - 4).kind;
        }
        if (among(what, 8, 7 + fields)) {
            return entry.cells.get(what - 8).value;
        }
        return switch (what) {
            case 0 -> fields;
            case 1 -> entry.end;
            case 2 -> entry.in == null ? -1 : entry.in.session;
            case 3 -> entry.by == null ? -1 : entry.by.session;
            default -> -1;
        };
    }
}
