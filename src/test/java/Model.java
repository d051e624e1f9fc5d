import java.util.ArrayDeque;
import java.util.ArrayList;
import java.util.Comparator;
import java.util.Deque;
import java.util.List;
import java.util.TreeMap;
import java.util.function.IntUnaryOperator;

/**
 * The document once more, written another way (by recursion, lists and exceptions), so that
 * random runs can be compared with the program's.
 */
final class Model {
    static final class Fails extends RuntimeException {
        private static final long serialVersionUID = 1;
    }

    static final class Ends extends RuntimeException {
        private static final long serialVersionUID = 1;
    }

    /** A VALUE (function -1) or a METHOD. */
    record Slot(int function, int k) {
    }

    record Way(int generic, int p, int q, int sort, int function, int k) {
    }

    static final class Thing {
        int kind;
        List<Integer> parents = new ArrayList<>();
        List<Integer> order = new ArrayList<>();
        TreeMap<Integer, Slot> slots = new TreeMap<>();

        Thing copied() {
            Thing t = new Thing();
            t.kind = kind;
            t.parents.addAll(parents);
            t.order.addAll(order);
            t.slots.putAll(slots);
            return t;
        }
    }

    static final class State {
        List<Thing> things = new ArrayList<>();
        List<Way> ways = new ArrayList<>();
        int seed = 1;

        State copied() {
            State s = new State();
            for (Thing t : things) {
                s.things.add(t.copied());
            }
            s.ways.addAll(ways);
            s.seed = seed;
            return s;
        }
    }

    private State now = new State();
    private State taken = null;
    /** null, an Integer (an OBJECT), or a long[] with its SORT in sorts. */
    private final Object[] shelf = new Object[8];
    private final int[] sorts = new int[8];
    private final int[] refused = new int[8];
    private int fault = -1;
    private int given = 0;
    private int lastRan = 0;
    private int ran = 0;
    private List<Integer> traced = new ArrayList<>();

    private int no(int n) {
        refused[-n]++;
        return n;
    }

    private int no10(int n) {
        return no(n) - 10;
    }

    private static boolean in(int x, int below) {
        return x >= 0 && x < below;
    }

    private boolean isThing(int o) {
        return in(o, now.things.size());
    }

    private Thing thing(int o) {
        return now.things.get(o);
    }

    int row(int s, int sort, int n) {
        if (!in(s, 8)) return no(-1);
        if (n < 0) return no(-4);
        if (!in(sort, 4)) return no(-6);
        if (n > 160) return no(-7);
        shelf[s] = new long[n];
        sorts[s] = sort;
        return 1;
    }

    int set(int s, int i, long v) {
        if (!in(s, 8)) return no(-1);
        if (shelf[s] instanceof Integer) return no(-2);
        if (shelf[s] == null) return no(-3);
        long[] row = (long[]) shelf[s];
        if (!in(i, row.length)) return no(-5);
        int away = 64 - (8 << sorts[s]);
        row[i] = v << away >> away;
        return 1;
    }

    int copy(int p, int q, int i, int j, int n) {
        if (!in(p, 8) || !in(q, 8)) return no(-1);
        if (shelf[p] instanceof Integer || shelf[q] instanceof Integer) return no(-2);
        if (shelf[p] != null && shelf[q] != null && sorts[p] != sorts[q]) return no(-2);
        if (shelf[p] == null || shelf[q] == null) return no(-3);
        if (n < 0) return no(-4);
        long[] from = (long[]) shelf[p];
        long[] to = (long[]) shelf[q];
        if (i < 0 || j < 0 || i > from.length - (long) n || j > to.length - (long) n) return no(-5);
        long[] ahead = from.clone();
        for (int at = 0; at < n; at++) to[j + at] = ahead[i + at];
        return 1;
    }

    long element(int s, int i) {
        if (!in(s, 8) || !(shelf[s] instanceof long[] row)) return 0;
        return in(i, row.length) ? row[i] : 0;
    }

    int show(int s, int o) {
        if (!in(s, 8)) return no(-1);
        if (o == -1) {
            shelf[s] = null;
            return 0;
        }
        if (!isThing(o)) return no(-1);
        shelf[s] = o;
        return 1;
    }

    int holds(int s) {
        if (!in(s, 8) || shelf[s] == null) return -1;
        if (shelf[s] instanceof Integer o) return o;
        return 100 + sorts[s];
    }

    int says(int s, int kind) {
        if (!in(s, 8) || !in(kind, 4)) return no(-1);
        if (shelf[s] instanceof long[]) return no(-2);
        if (shelf[s] == null) return no(-3);
        Thing t = thing((Integer) shelf[s]);
        boolean fits = switch (kind) {
            case 0 -> true;
            case 1 -> t.kind == 1 || t.kind == 3;
            default -> t.kind == kind;
        };
        if (!fits) return no(-2);
        return switch (kind) {
            case 0 -> t.order.size();
            case 1 -> t.slots.size();
            case 2 -> t.parents.size();
            default -> bits(t.slots.keySet());
        };
    }

    private static int bits(Iterable<Integer> all) {
        int bits = 0;
        for (int each : all) bits |= 1 << each;
        return bits;
    }

    int read(int s) {
        if (!in(s, 8)) return no(-1);
        if (shelf[s] instanceof Integer) return no(-2);
        if (shelf[s] == null) return no(-3);
        long[] row = (long[]) shelf[s];
        State before = now.copied();
        TextMachine machine = new TextMachine();
        fault = machine.read(row);
        if (fault == -1) return machine.items;
        now = before;
        return no(-6);
    }

    /** Takes a TEXT letter by letter, by what may stand next. */
    private final class TextMachine {
        int items = 0;
        private static final String NEW = "new ";
        private String state = "new0";
        private int start = 0;
        private int kind;
        private List<Integer> parents;
        private int numberAt;
        private String digits;
        private int slot;
        private int function;

        int read(long[] row) {
            for (int at = 0; at < row.length; at++) {
                int bad = letter((int) row[at], at);
                if (bad != -1) return bad;
            }
            return end(row.length);
        }

        /** The end is like a letter that can't stand, but where a TEXT may end. */
        private int end(int at) {
            boolean mayEnd = state.equals("kind read") || state.equals("item made")
                || state.equals("value1") || state.equals("value2")
                || state.equals("number1") || state.equals("number2");
            int bad = letter(Integer.MIN_VALUE, at);
            return mayEnd && bad == at ? -1 : bad;
        }

        private int letter(int c, int at) {
            boolean digit = c >= '0' && c <= '9';
            if (state.startsWith("new")) {
                int place = state.charAt(3) - '0';
                if (place == 0) start = at;
                if (c != NEW.charAt(place)) return at;
                state = place == 3 ? "kind" : "new" + (place + 1);
                return -1;
            }
            switch (state) {
                case "kind":
                    if (c < '0' || c > '3') return at;
                    kind = c - '0';
                    parents = new ArrayList<>();
                    state = "kind read";
                    return -1;
                case "kind read":
                    if (c == '<') {
                        state = "number";
                        return -1;
                    }
                    return makeItem(c, at);
                case "number":
                    if (!digit) return at;
                    numberAt = at;
                    digits = "" + (char) c;
                    state = "number1";
                    return -1;
                case "number1":
                    if (digit) {
                        digits += (char) c;
                        state = "number2";
                        return -1;
                    }
                    return numberEnds(c, at);
                case "number2":
                    return numberEnds(c, at);
                case "item made":
                    return behindItem(c, at);
                case "slot":
                    if (c < 'a' || c > 'p') return at;
                    slot = c - 'a';
                    state = "sign of slot";
                    return -1;
                case "sign of slot":
                    if (c != '=' && c != ':') return at;
                    function = -1;
                    state = c == '=' ? "value" : "function";
                    digits = "";
                    return -1;
                case "function":
                    if (!digit) return at;
                    function = c - '0';
                    state = "point";
                    return -1;
                case "point":
                    if (c != '.') return at;
                    state = "value";
                    return -1;
                case "value":
                    if (c == '-') {
                        digits = "-";
                        state = "value0";
                        return -1;
                    }
                    if (!digit) return at;
                    digits += (char) c;
                    state = "value1";
                    return -1;
                case "value0":
                    if (!digit) return at;
                    digits += (char) c;
                    state = "value1";
                    return -1;
                case "value1":
                    if (digit) {
                        digits += (char) c;
                        state = "value2";
                        return -1;
                    }
                    return slotEnds(c, at);
                case "value2":
                    return slotEnds(c, at);
                default:
                    throw new IllegalStateException(state);
            }
        }

        private int numberEnds(int c, int at) {
            int n = Integer.parseInt(digits);
            if (!isThing(n) || thing(n).kind == 2 || parents.contains(n)) return numberAt;
            parents.add(n);
            if (c == ',') {
                if (parents.size() == 3) return at;
                state = "number";
                return -1;
            }
            return makeItem(c, at);
        }

        private int makeItem(int c, int at) {
            List<Integer> order = orderBy(parents);
            if (order == null || now.things.size() >= 16) return start;
            add(kind, parents, order);
            items++;
            state = "item made";
            return behindItem(c, at);
        }

        private int slotEnds(int c, int at) {
            int v = Integer.parseInt(digits);
            thing(now.things.size() - 1).slots.put(slot, new Slot(function, v));
            state = "item made";
            return behindItem(c, at);
        }

        private int behindItem(int c, int at) {
            if (c == ' ') {
                state = "slot";
                return -1;
            }
            if (c == ';') {
                state = "new0";
                return -1;
            }
            return at;
        }
    }

    int fault() {
        return fault;
    }

    /** The ORDER behind the OBJECT itself; null: none. */
    private List<Integer> orderBy(List<Integer> parents) {
        List<Deque<Integer>> rows = new ArrayList<>();
        for (int p : parents) rows.add(new ArrayDeque<>(thing(p).order));
        rows.add(new ArrayDeque<>(parents));
        List<Integer> order = new ArrayList<>();
        while (true) {
            rows.removeIf(Deque::isEmpty);
            if (rows.isEmpty()) return order;
            Integer next = null;
            for (Deque<Integer> row : rows) {
                Integer first = row.peekFirst();
                boolean behind = false;
                for (Deque<Integer> other : rows) {
                    behind |= other.contains(first) && !other.peekFirst().equals(first);
                }
                if (!behind) {
                    next = first;
                    break;
                }
            }
            if (next == null) return null;
            order.add(next);
            for (Deque<Integer> row : rows) row.remove(next);
        }
    }

    private int add(int kind, List<Integer> parents, List<Integer> order) {
        Thing t = new Thing();
        t.kind = kind;
        t.parents.addAll(parents);
        t.order.add(now.things.size());
        t.order.addAll(order);
        now.things.add(t);
        return now.things.size() - 1;
    }

    private int badParents(int n, int[] pqr) {
        if (n < 0 || n > 3) return -6;
        List<Integer> all = new ArrayList<>();
        for (int i = 0; i < n; i++) {
            if (!isThing(pqr[i])) return -1;
            all.add(pqr[i]);
        }
        if (all.stream().distinct().count() < n) return -6;
        for (int p : all) {
            if (thing(p).kind == 2) return -6;
        }
        return 0;
    }

    private static List<Integer> firsts(int n, int... pqr) {
        List<Integer> all = new ArrayList<>();
        for (int i = 0; i < n; i++) all.add(pqr[i]);
        return all;
    }

    int make(int kind, int n, int p, int q, int r) {
        if (!in(kind, 4)) return no(-1);
        int bad = badParents(n, new int[] {p, q, r});
        if (bad != 0) return no(bad);
        List<Integer> parents = firsts(n, p, q, r);
        List<Integer> order = orderBy(parents);
        if (order == null) return no(-6);
        if (now.things.size() == 16) return no(-7);
        return add(kind, parents, order);
    }

    int wouldBe(int n, int p, int q, int r, int i) {
        int bad = badParents(n, new int[] {p, q, r});
        if (bad != 0) return no10(bad);
        List<Integer> order = orderBy(firsts(n, p, q, r));
        if (order == null) return 99;
        if (i == -1) return order.size();
        return in(i, order.size()) ? order.get(i) : -1;
    }

    private int tell(int o, int slot, Slot what) {
        return thing(o).slots.put(slot, what) == null ? 0 : 1;
    }

    int value(int o, int slot, int v) {
        if (!isThing(o) || !in(slot, 16)) return no(-1);
        if (thing(o).kind == 3) return no(-6);
        return tell(o, slot, new Slot(-1, v));
    }

    int method(int o, int slot, int function, int k) {
        if (!isThing(o) || !in(slot, 16)) return no(-1);
        if (!in(function, 10) || Math.abs((long) k) > 99) return no(-6);
        if (thing(o).kind == 3) return no(-6);
        return tell(o, slot, new Slot(function, k));
    }

    int remove(int o, int slot) {
        if (!isThing(o) || !in(slot, 16)) return no(-1);
        if (!thing(o).slots.containsKey(slot)) return no(-5);
        if (thing(o).kind == 3) return no(-6);
        thing(o).slots.remove(slot);
        return 1;
    }

    int objectOf(int o, int what) {
        if (!isThing(o) || !in(what, 9)) return no(-5);
        Thing t = thing(o);
        switch (what) {
            case 0: return t.kind;
            case 1: return t.parents.size();
            case 5: return bits(t.slots.keySet());
            case 6:
                int found = 0;
                for (int slot = 0; slot < 16; slot++) {
                    if (foundIn(o, slot) >= 0) found += 1 << slot;
                }
                return found;
            case 7: return t.order.size();
            case 8:
                int family = 0;
                for (int c = 0; c < now.things.size(); c++) {
                    if (thing(c).order.contains(o)) family += 1 << c;
                }
                return family;
            default:
                return what - 2 < t.parents.size() ? t.parents.get(what - 2) : -1;
        }
    }

    private int foundIn(int o, int slot) {
        for (int p : thing(o).order) {
            if (thing(p).slots.containsKey(slot)) return p;
        }
        return -1;
    }

    int order(int o, int i) {
        if (!isThing(o)) return no10(-1);
        return in(i, thing(o).order.size()) ? thing(o).order.get(i) : -1;
    }

    int distance(int o, int p) {
        if (!isThing(o) || !isThing(p)) return no10(-1);
        return thing(o).order.indexOf(p);
    }

    int where(int o, int slot) {
        if (!isThing(o) || !in(slot, 16)) return no10(-1);
        return foundIn(o, slot);
    }

    int hidden(int o, int p) {
        if (!isThing(o) || !isThing(p)) return no(-1);
        if (!thing(o).order.contains(p)) return no(-6);
        int hidden = 0;
        for (int slot : thing(p).slots.keySet()) {
            if (foundIn(o, slot) != p) hidden += 1 << slot;
        }
        return hidden;
    }

    int slotOf(int o, int slot, int what) {
        if (!isThing(o)) return 0;
        Slot s = thing(o).slots.get(slot);
        if (s == null) return 0;
        if (what == 0) return s.function >= 0 ? 1 : 0;
        if (what == 1) return Math.max(0, s.function);
        return what == 2 ? s.k : 0;
    }

    private void begin() {
        if (ran == 200) throw new Ends();
        ran++;
    }

    private int runs(int function, int k, int self, int x, IntUnaryOperator next) {
        int slot = ((k % 16) + 16) % 16;
        switch (function) {
            case 0: return x + k;
            case 1: return x * k;
            case 2: return next.applyAsInt(x + k);
            case 3: return next.applyAsInt(next.applyAsInt(x));
            case 4: return sends(self, slot, 0, x);
            case 5: return x + sends(self, slot, 0, 0);
            case 6:
                if (thing(self).kind % 2 == 1) throw new Fails();
                thing(self).slots.put(slot, new Slot(-1, x));
                return x;
            case 7: return x >= k ? x : next.applyAsInt(x);
            case 8: return ran + x;
            default:
                try {
                    return next.applyAsInt(x);
                } catch (Fails f) {
                    return k;
                }
        }
    }

    private int sends(int self, int slot, int from, int x) {
        List<Integer> order = thing(self).order;
        for (int i = from; i < order.size(); i++) {
            Slot s = thing(order.get(i)).slots.get(slot);
            if (s == null) continue;
            if (s.function < 0) return s.k;
            int behind = i + 1;
            begin();
            return runs(s.function, s.k, self, x, y -> sends(self, slot, behind, y));
        }
        throw new Fails();
    }

    private int lastGave;

    /** 0, 1, 2; what was SET goes unless it gave something. */
    private int outcome(java.util.function.IntSupplier act) {
        State before = now.copied();
        try {
            lastGave = act.getAsInt();
            return 0;
        } catch (Fails f) {
            now = before;
            lastGave = 0;
            return 1;
        } catch (Ends e) {
            now = before;
            lastGave = 0;
            return 2;
        }
    }

    int send(int o, int slot, int x) {
        if (!isThing(o) || !in(slot, 16)) return no(-1);
        ran = 0;
        int came = outcome(() -> sends(o, slot, 0, x));
        given = lastGave;
        lastRan = ran;
        return came;
    }

    int given() {
        return given;
    }

    int trial(int o, int slot, int x, int what) {
        if (!isThing(o) || !in(slot, 16)) return no(-1);
        if (!in(what, 2)) return no(-5);
        State before = now.copied();
        ran = 0;
        int came = outcome(() -> sends(o, slot, 0, x));
        now = before;
        return what == 0 ? came : ran;
    }

    private boolean badCall(int generic, int a, int b) {
        return !in(generic, 8) || !isThing(a) || !isThing(b);
    }

    int way(int generic, int p, int q, int sort, int function, int k) {
        if (badCall(generic, p, q)) return no(-1);
        if (!in(sort, 4) || !in(function, 10) || Math.abs((long) k) > 99) return no(-6);
        if (now.ways.size() == 32) return no(-7);
        now.ways.add(new Way(generic, p, q, sort, function, k));
        return now.ways.size() - 1;
    }

    int wayOf(int way, int what) {
        if (!in(way, now.ways.size()) || !in(what, 6)) return no(-5);
        Way w = now.ways.get(way);
        return new int[] {w.generic, w.p, w.q, w.sort, w.function, w.k + 100}[what];
    }

    private int far(int way, int a, int b) {
        return near(way, a) + thing(b).order.indexOf(now.ways.get(way).q);
    }

    private int near(int way, int a) {
        return thing(a).order.indexOf(now.ways.get(way).p);
    }

    private List<Integer> applying(int generic, int a, int b, int sort) {
        List<Integer> all = new ArrayList<>();
        for (int i = 0; i < now.ways.size(); i++) {
            Way w = now.ways.get(i);
            if (w.generic == generic && w.sort == sort && thing(a).order.contains(w.p)
                && thing(b).order.contains(w.q)) {
                all.add(i);
            }
        }
        all.sort(Comparator.<Integer>comparingInt(i -> far(i, a, b))
            .thenComparingInt(i -> near(i, a)).thenComparing(Comparator.reverseOrder()));
        return all;
    }

    int applies(int generic, int a, int b, int sort, int i) {
        if (badCall(generic, a, b)) return no10(-1);
        if (!in(sort, 4)) return no10(-6);
        List<Integer> all = applying(generic, a, b, sort);
        if (i == -1) return all.size();
        return in(i, all.size()) ? all.get(i) : -1;
    }

    int tie(int generic, int a, int b) {
        if (badCall(generic, a, b)) return no(-1);
        List<Integer> all = applying(generic, a, b, 0);
        return all.size() > 1 && far(all.get(0), a, b) == far(all.get(1), a, b) ? 1 : 0;
    }

    private int runWay(int way, int self, int x, IntUnaryOperator next) {
        begin();
        traced.add(way);
        Way w = now.ways.get(way);
        return runs(w.function, w.k, self, x, next);
    }

    private IntUnaryOperator chain(List<Integer> ways, int self, IntUnaryOperator last) {
        IntUnaryOperator next = last;
        for (int i = ways.size() - 1; i >= 0; i--) {
            IntUnaryOperator behind = next;
            int way = ways.get(i);
            next = x -> runWay(way, self, x, behind);
        }
        return next;
    }

    int call(int generic, int a, int b, int x) {
        if (badCall(generic, a, b)) return no(-1);
        ran = 0;
        traced = new ArrayList<>();
        IntUnaryOperator none = y -> {
            throw new Fails();
        };
        List<Integer> mains = applying(generic, a, b, 0);
        List<Integer> befores = applying(generic, a, b, 1);
        List<Integer> afters = applying(generic, a, b, 2);
        List<Integer> arounds = applying(generic, a, b, 3);
        IntUnaryOperator core = y -> {
            if (mains.isEmpty()) throw new Fails();
            for (int way : befores) runWay(way, a, y, none);
            int gave = chain(mains, a, none).applyAsInt(y);
            for (int i = afters.size() - 1; i >= 0; i--) runWay(afters.get(i), a, gave, none);
            return gave;
        };
        int came = outcome(() -> chain(arounds, a, core).applyAsInt(x));
        given = lastGave;
        lastRan = ran;
        return came;
    }

    int trace(int i) {
        return in(i, Math.min(30, traced.size())) ? traced.get(i) : -1;
    }

    int judge(int s, int o, int slot, int n) {
        if (!in(s, 8) || !isThing(o) || !in(slot, 16)) return no10(-1);
        if (shelf[s] instanceof Integer) return no10(-2);
        if (shelf[s] == null) return no10(-3);
        if (n < 0) return no10(-4);
        long[] row = (long[]) shelf[s];
        if (n > row.length / 2) return no10(-5);
        if (n > 80) return no10(-6);
        ran = 0;
        for (int i = 0; i < n; i++) {
            int x = (int) row[2 * i];
            State before = now.copied();
            int came = outcome(() -> sends(o, slot, 0, x));
            now = before;
            if (came != 0 || lastGave != (int) row[2 * i + 1]) return i;
        }
        return -1;
    }

    private int draw(int n) {
        now.seed = now.seed * 1103515245 + 12345;
        return (now.seed >> 16 & 0xffff) % n;
    }

    int days(int n) {
        if (now.things.isEmpty()) return no(-5);
        if (n < 1 || n > 40) return no(-6);
        ran = 0;
        for (int day = 0; day < n; day++) {
            int o = draw(now.things.size());
            int slot = draw(16);
            switch (draw(3)) {
                case 0:
                    if (thing(o).kind != 3) thing(o).slots.put(slot, new Slot(-1, draw(100)));
                    break;
                case 1:
                    int x = draw(100);
                    outcome(() -> sends(o, slot, 0, x));
                    break;
                default:
                    if (thing(o).kind != 3) thing(o).slots.remove(slot);
                    break;
            }
        }
        return status(2);
    }

    int seed(int v) {
        int was = now.seed;
        now.seed = v;
        return was;
    }

    int image() {
        taken = now.copied();
        return now.things.size();
    }

    int restore() {
        if (taken == null) return no(-6);
        now = taken.copied();
        for (int s = 0; s < 8; s++) {
            if (shelf[s] instanceof Integer o && o >= now.things.size()) shelf[s] = null;
        }
        return now.things.size();
    }

    int status(int what) {
        switch (what) {
            case 0: return now.things.size();
            case 1: return now.ways.size();
            case 2: return now.things.stream().mapToInt(t -> t.slots.size()).sum();
            case 3:
                return (int) now.things.stream().flatMap(t -> t.slots.values().stream())
                    .filter(s -> s.function >= 0).count();
            case 4: return now.seed;
            case 5: return traced.size();
            case 6: return lastRan;
            default: return what > 10 && what < 18 ? refused[what - 10] : -1;
        }
    }
}
