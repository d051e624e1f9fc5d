import java.lang.reflect.InvocationTargetException;
import java.lang.reflect.Method;
import java.lang.reflect.Modifier;
import java.util.Arrays;
import java.util.HashMap;
import java.util.Map;
import java.util.Random;

/** Random runs of calls, each answered by the program as by the Model. */
public final class RandomRunsTest {
    private static final int RUNS = 6000;
    /** What an object answers after so many calls is free. */
    private static final int CALLS = 512;
    private static final int LOOKS = 120;
    private static final String[] NAMES = {"row", "set", "copy", "element", "show", "holds", "says",
        "read", "fault", "make", "wouldBe", "value", "method", "remove", "objectOf", "order",
        "distance", "where", "hidden", "slotOf", "send", "given", "trial", "way", "wayOf",
        "applies", "tie", "call", "trace", "judge", "days", "seed", "image", "restore", "status"};
    private static final int[] WEIGHTS = {2, 4, 3, 2, 3, 2, 4, 2, 1, 8, 4, 6, 14, 3, 5, 3, 3, 4, 4, 4,
        14, 3, 8, 14, 3, 6, 4, 14, 4, 4, 3, 1, 1, 1, 4};
    private static final int[] ODD = {-1, -2, Integer.MIN_VALUE, Integer.MAX_VALUE, -100, 100, 16, 8, 4};

    private static final Map<String, Method> ON_PROGRAM = methodsOf(ProtoOrders.class);
    private static final Map<String, Method> ON_MODEL = methodsOf(Model.class);

    private static final int PLAIN = TestBase.PLAIN;
    private static final int FIRM = TestBase.FIRM;
    private static final int MAIN = TestBase.MAIN;
    private static final int AROUND = TestBase.AROUND;
    private static final int[] SORTS = {MAIN, MAIN, TestBase.BEFORE, TestBase.AFTER, AROUND, AROUND};
    private static final int[] GOING_ON = {TestBase.NEXT, TestBase.NEXT, TestBase.TWICE, TestBase.TWICE, TestBase.GUARD,
        TestBase.GUARD, TestBase.WHEN, TestBase.SELF, TestBase.SUM};
    private static final int[] ALONE = {TestBase.SET, TestBase.SET, TestBase.COUNT, TestBase.GUARD, TestBase.SUM,
        TestBase.SELF, TestBase.ADD};

    private final Random random;
    private final ProtoOrders program = new ProtoOrders();
    private final Model model = new Model();
    private final int run;
    private final boolean daring;
    private final boolean crowded;
    private int calls = 0;

    private RandomRunsTest(int run) {
        this.run = run;
        random = new Random(run * 7919L + 17);
        daring = random.nextInt(3) == 0;
        crowded = run % 2 == 1;
    }

    private static Map<String, Method> methodsOf(Class<?> all) {
        Map<String, Method> methods = new HashMap<>();
        for (Method method : all.getDeclaredMethods()) {
            if (!Modifier.isPrivate(method.getModifiers())) {
                methods.put(method.getName(), method);
            }
        }
        return methods;
    }

    /** The arguments are ints; set() has v behind them. */
    private static long answer(Map<String, Method> methods, Object x, String name, int[] a, long v) {
        Object[] given = new Object[methods.get(name).getParameterCount()];
        for (int i = 0; i < given.length; i++) {
            given[i] = i < a.length ? (Object) a[i] : (Object) v;
        }
        try {
            return ((Number) methods.get(name).invoke(x, given)).longValue();
        } catch (InvocationTargetException e) {
            throw new IllegalStateException(e.getCause());
        } catch (IllegalAccessException e) {
            throw new IllegalStateException(e);
        }
    }

    /** Calls both, unless the object has had all its calls. */
    private long both(String name, long v, int... a) {
        if (calls == CALLS) {
            return 0;
        }
        calls++;
        long want = answer(ON_MODEL, model, name, a, v);
        long got;
        String call = "run " + run + ", call " + calls + ": " + name + Arrays.toString(a) + " " + v;
        try {
            got = answer(ON_PROGRAM, program, name, a, v);
        } catch (RuntimeException e) {
            System.out.println(call + ": " + e);
            got = want + 1;
        }
        Due.due(call, got, want);
        return want;
    }

    /** Mostly a number from 0 on below n, now and then another. */
    private int some(int n) {
        if (n < 1 || random.nextInt(40) == 0) {
            return random.nextInt(3) == 0 ? n : ODD[random.nextInt(ODD.length)];
        }
        return random.nextInt(n);
    }

    private int object() {
        return some(model.status(0));
    }

    private int k() {
        if (random.nextInt(50) == 0) {
            return random.nextBoolean() ? -100 + 200 * random.nextInt(2) : random.nextInt();
        }
        return random.nextInt(4) == 0 ? random.nextInt(199) - 99 : random.nextInt(6);
    }

    private int x() {
        switch (random.nextInt(8)) {
            case 0: return random.nextInt();
            case 1: return random.nextInt(199) - 99;
            default: return random.nextInt(8);
        }
    }

    /** SLOTS that are told and sent to are few, so that they meet. */
    private int slot() {
        return random.nextInt(6) == 0 ? some(16) : random.nextInt(4);
    }

    private int index(int n) {
        return random.nextInt(4) == 0 ? -1 : some(n);
    }

    private int[] arguments(String name) {
        int objects = model.status(0);
        switch (name) {
            case "row": return new int[] {some(8), some(4), random.nextInt(6) == 0 ? some(162) : some(9)};
            case "set":
            case "element": return new int[] {some(8), random.nextInt(9) == 0 ? some(160) : some(6)};
            case "copy": return new int[] {some(4), some(4), some(4), some(4), some(4)};
            case "show": return new int[] {some(8), random.nextInt(5) == 0 ? -1 : object()};
            case "holds":
            case "read": return new int[] {some(8)};
            case "says": return new int[] {some(8), some(4)};
            case "make":
                int n = objects == 0 ? 0 : random.nextInt(5) == 0 ? 0 : some(4);
                int kind = random.nextInt(3) == 0 ? some(4) : 0;
                return new int[] {kind, n, object(), object(), object()};
            case "wouldBe": return new int[] {some(4), object(), object(), object(), index(objects)};
            case "value": return new int[] {object(), slot(), x()};
            case "method": return new int[] {object(), slot(), some(10), k()};
            case "remove": return new int[] {object(), slot()};
            case "objectOf": return new int[] {object(), some(9)};
            case "order": return new int[] {object(), index(objects)};
            case "distance":
            case "hidden": return new int[] {object(), object()};
            case "where": return new int[] {object(), slot()};
            case "slotOf": return new int[] {object(), slot(), some(3)};
            case "send": return new int[] {object(), slot(), x()};
            case "trial": return new int[] {object(), slot(), x(), some(2)};
            case "way": return new int[] {generic(), object(), object(), some(4), some(10), k()};
            case "wayOf": return new int[] {some(model.status(1)), some(6)};
            case "applies": return new int[] {generic(), object(), object(), some(4), index(6)};
            case "tie": return new int[] {generic(), object(), object()};
            case "call": return new int[] {generic(), object(), object(), x()};
            case "trace": return new int[] {random.nextInt(3) == 0 ? some(33) : some(4)};
            case "judge": return new int[] {some(8), object(), slot(), random.nextInt(9) == 0 ? some(82) : some(4)};
            case "days": return new int[] {random.nextInt(5) == 0 ? some(42) : 1 + some(4)};
            case "seed": return new int[] {random.nextInt()};
            case "status": return new int[] {some(18)};
            default: return new int[0];
        }
    }

    private int generic() {
        return random.nextInt(12) == 0 ? some(8) : random.nextInt(2);
    }

    private String name() {
        int all = 0;
        for (int weight : WEIGHTS) {
            all += weight;
        }
        int at = random.nextInt(all);
        for (int i = 0; i < NAMES.length; i++) {
            at -= WEIGHTS[i];
            if (at < 0) {
                return NAMES[i];
            }
        }
        return "status";
    }

    private String text() {
        StringBuilder text = new StringBuilder();
        int items = 1 + random.nextInt(5);
        for (int item = 0; item < items; item++) {
            if (item > 0) {
                text.append(';');
            }
            text.append("new ").append(random.nextInt(20) == 0 ? random.nextInt(10) : random.nextInt(4));
            int parents = random.nextInt(5);
            int objects = model.status(0) + item;
            for (int i = 0; i < parents && objects > 0; i++) {
                text.append(i == 0 ? '<' : ',');
                text.append(random.nextInt(9) == 0 ? "0" : "").append(random.nextInt(objects));
            }
            int slots = random.nextInt(3);
            for (int i = 0; i < slots; i++) {
                text.append(' ').append((char) ('a' + random.nextInt(random.nextInt(5) == 0 ? 17 : 4)));
                text.append(random.nextBoolean() ? "=" : ":" + random.nextInt(10) + ".");
                text.append(random.nextInt(3) == 0 ? "-" : "").append(random.nextInt(100));
            }
        }
        if (random.nextInt(3) == 0) {
            spoil(text);
        }
        return text.toString();
    }

    private void spoil(StringBuilder text) {
        String letters = "new <,;=:.-0123456789apq\u0000";
        char letter = letters.charAt(random.nextInt(letters.length()));
        int at = random.nextInt(text.length());
        switch (random.nextInt(4)) {
            case 0: text.setCharAt(at, letter); break;
            case 1: text.insert(at, letter); break;
            case 2: text.deleteCharAt(at); break;
            default: text.setLength(at); break;
        }
    }

    private void readText() {
        String text = text();
        int s = random.nextInt(8);
        int sort = random.nextInt(4);
        both("row", 0, s, sort, text.length());
        for (int i = 0; i < text.length() && i < 160; i++) {
            long v = text.charAt(i);
            if (sort == 3 && random.nextInt(9) == 0) {
                v += (long) random.nextInt() << 32;
            }
            both("set", v, s, i);
        }
        both("read", 0, s);
        both("fault", 0);
        lookAround(Math.min(calls + 30, CALLS));
    }

    /** Tables that are right as often as not, so that judge() goes on. */
    private void judgeTable() {
        int o = object();
        int slot = slot();
        int s = random.nextInt(8);
        int twos = random.nextInt(9) == 0 ? 80 : 1 + random.nextInt(6);
        both("row", 0, s, 2, 2 * twos);
        for (int i = 0; i < twos; i++) {
            int x = x();
            both("set", x, s, 2 * i);
            both("send", 0, o, slot, x);
            both("set", random.nextInt(12) == 0 ? x() : model.given(), s, 2 * i + 1);
        }
        both("judge", 0, s, o, slot, twos);
    }

    private void look() {
        int o = random.nextInt(Math.max(model.status(0), 1));
        int slot = random.nextInt(16);
        switch (random.nextInt(9)) {
            case 0: both("status", 0, random.nextInt(18)); break;
            case 1: both("objectOf", 0, o, random.nextInt(9)); break;
            case 2: both("order", 0, o, random.nextInt(16)); break;
            case 3: both("trace", 0, random.nextInt(32)); break;
            case 4: both("wayOf", 0, random.nextInt(Math.max(model.status(1), 1)), random.nextInt(6)); break;
            case 5: both("element", 0, random.nextInt(8), random.nextInt(9)); break;
            case 6: both("holds", 0, random.nextInt(8)); break;
            default: both("slotOf", 0, o, slot, 0);
                both("slotOf", 0, o, slot, 1);
                both("slotOf", 0, o, slot, 2);
                break;
        }
    }

    private void lookAround(int till) {
        while (calls < till) {
            look();
        }
    }

    private void live() {
        while (calls < CALLS - LOOKS) {
            if (random.nextInt(50) == 0) {
                readText();
            } else if (random.nextInt(60) == 0) {
                judgeTable();
            } else {
                String name = daring && random.nextInt(3) == 0 ? "call" : name();
                both(name, random.nextInt(3) == 0 ? random.nextLong() : x(), arguments(name));
                if (name.equals("send") || name.equals("call")) {
                    both("given", 0);
                    both("status", 0, 6);
                    both("status", 0, 5);
                }
            }
        }
        lookAround(CALLS);
    }

    /** Few OBJECTS, most of them in one line, and many METHODS and WAYS of GENERIC 0 that meet. */
    private void crowd() {
        int objects = 1 + random.nextInt(4);
        for (int o = 0; o < objects; o++) {
            both("make", 0, random.nextInt(8) == 0 ? FIRM : PLAIN, o == 0 ? 0 : 1, o - 1, 0, 0);
            for (int slot = 0; slot < 4; slot++) {
                crowdSlot(o, slot);
            }
        }
        int ways = 4 + random.nextInt(24);
        for (int i = 0; i < ways; i++) {
            crowdWay(objects);
        }
    }

    private void crowdSlot(int o, int slot) {
        int what = random.nextInt(8);
        if (what == 0) {
            both("value", 0, o, slot, x());
        } else if (what < 7) {
            both("method", 0, o, slot, random.nextInt(10), k());
        }
    }

    /** MAIN and AROUND ones as a rule have a NEXT; of the others most would FAIL without. */
    private void crowdWay(int objects) {
        int sort = SORTS[random.nextInt(SORTS.length)];
        boolean goesOn = sort == MAIN || sort == AROUND;
        int function = goesOn ? GOING_ON[random.nextInt(GOING_ON.length)] : ALONE[random.nextInt(ALONE.length)];
        if (random.nextInt(8) == 0) {
            function = random.nextInt(10);
        }
        both("way", 0, 0, random.nextInt(objects), random.nextInt(objects), sort, function, k());
    }

    private void liveCrowded() {
        crowd();
        while (calls < CALLS) {
            int objects = model.status(0);
            int o = random.nextInt(objects);
            int before = calls;
            switch (random.nextInt(12)) {
                case 0:
                    both("send", 0, o, random.nextInt(4), x());
                    break;
                case 1:
                    both("trial", 0, o, random.nextInt(4), x(), random.nextInt(2));
                    break;
                case 2:
                    judgeTable();
                    break;
                case 3:
                    both("days", 0, 1 + random.nextInt(40));
                    break;
                case 4:
                    crowdSlot(o, random.nextInt(4));
                    break;
                case 5:
                    both(random.nextInt(3) == 0 ? "image" : "restore", 0);
                    break;
                case 6:
                    crowdWay(objects);
                    break;
                default:
                    both("call", 0, 0, o, random.nextInt(objects), x());
                    lookAtTrace();
                    break;
            }
            both("given", 0);
            both("status", 0, 6);
            both("objectOf", 0, o, 5);
            lookAround(Math.min(CALLS, calls + (calls - before) / 4));
        }
    }

    private void lookAtTrace() {
        both("status", 0, 5);
        int ran = Math.min(model.status(5), 31);
        for (int i = random.nextInt(4); i < ran; i += 1 + random.nextInt(4)) {
            both("trace", 0, i);
        }
    }

    public static void main(String[] args) {
        for (int run = 0; run < RUNS && Due.wrongSoFar() == 0; run++) {
            RandomRunsTest each = new RandomRunsTest(run);
            if (each.crowded) {
                each.liveCrowded();
            } else {
                each.live();
            }
        }
        Due.end("RandomRunsTest");
    }
}
