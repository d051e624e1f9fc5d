import java.util.function.Consumer;

/** What the tests share: objects as tests need them, and looks at several answers at once. */
abstract class TestBase {
    static final int NONE = ProtoOrders.NONE;
    static final int LEAST = Integer.MIN_VALUE;
    static final int MOST = Integer.MAX_VALUE;

    static final int PLAIN = 0;
    static final int FIRM = 1;
    static final int LAST = 2;
    static final int STILL = 3;

    static final int MAIN = 0;
    static final int BEFORE = 1;
    static final int AFTER = 2;
    static final int AROUND = 3;

    static final int ADD = 0;
    static final int TIMES = 1;
    static final int NEXT = 2;
    static final int TWICE = 3;
    static final int SELF = 4;
    static final int SUM = 5;
    static final int SET = 6;
    static final int WHEN = 7;
    static final int COUNT = 8;
    static final int GUARD = 9;

    static final int[] NO_SHELVES = {-1, 8, LEAST, MOST};
    static final int[] NO_SLOTS = {-1, 16, LEAST, MOST};
    static final int[] NO_GENERICS = {-1, 8, LEAST, MOST};
    /** Where there are six, as common() makes them. */
    static final int[] NO_OBJECTS = {-1, 6, LEAST, MOST};

    static void due(String call, long got, long want) {
        Due.due(call, got, want);
    }

    /** The call is refused with this number, one more of it is counted, and all else stays. */
    static void refuses(Consumer<ProtoOrders> scene, int want, String name, int... arguments) {
        Refused.check(scene, want, name, arguments);
    }

    static ProtoOrders made(Consumer<ProtoOrders> scene) {
        ProtoOrders x = new ProtoOrders();
        scene.accept(x);
        return x;
    }

    /** How many were refused, by their numbers -1 to -7. */
    static void refused(String what, ProtoOrders x, int... many) {
        for (int i = 0; i < many.length; i++) {
            due(what + ": refusals -" + (i + 1), x.status(11 + i), many[i]);
        }
    }

    static void lay(ProtoOrders x, int s, int sort, String text) {
        x.row(s, sort, text.length());
        for (int i = 0; i < text.length(); i++) {
            x.set(s, i, text.charAt(i));
        }
    }

    static int reading(ProtoOrders x, String text) {
        lay(x, 7, 0, text);
        return x.read(7);
    }

    static void fault(String text, int want) {
        fault(new ProtoOrders(), text, want);
    }

    static void fault(ProtoOrders x, String text, int want) {
        int objects = x.status(0);
        int items = text.split(";", -1).length;
        due("read " + text, reading(x, text), want == NONE ? items : -6);
        due("fault of " + text, x.fault(), want);
        due("objects behind " + text, x.status(0), want == NONE ? objects + items : objects);
    }

    static void gives(String what, ProtoOrders x, int o, int slot, int with, int want) {
        due(what + " send", x.send(o, slot, with), 0);
        due(what + " given", x.given(), want);
    }

    static void fails(String what, ProtoOrders x, int o, int slot, int with, int want) {
        due(what + " send", x.send(o, slot, with), want);
        due(what + " given", x.given(), 0);
    }

    static void calls(String what, ProtoOrders x, int a, int b, int with, int outcome, int want) {
        due(what + " call", x.call(0, a, b, with), outcome);
        due(what + " given", x.given(), want);
    }

    static void traces(String what, ProtoOrders x, int... ways) {
        due(what + " ways ran", x.status(5), ways.length);
        for (int i = 0; i < ways.length; i++) {
            due(what + " trace " + i, x.trace(i), ways[i]);
        }
        due(what + " trace's end", x.trace(ways.length), NONE);
    }

    /** The ORDER of o, and none behind it. */
    static void orders(String what, ProtoOrders x, int o, int... order) {
        due(what + " order's size", x.objectOf(o, 7), order.length);
        for (int i = 0; i < order.length; i++) {
            due(what + " order " + i, x.order(o, i), order[i]);
        }
        due(what + " order's end", x.order(o, order.length), NONE);
    }

    /** 0; 1 and 2 under 0; 3 under 1 and 2. */
    static ProtoOrders diamond() {
        ProtoOrders x = new ProtoOrders();
        x.make(PLAIN, 0, 0, 0, 0);
        x.make(PLAIN, 1, 0, 0, 0);
        x.make(PLAIN, 1, 0, 0, 0);
        x.make(PLAIN, 2, 1, 2, 0);
        return x;
    }

    /** Each OBJECT's PARENT is the one made ahead of it. */
    static ProtoOrders line(int objects) {
        ProtoOrders x = new ProtoOrders();
        for (int o = 0; o < objects; o++) {
            x.make(PLAIN, o == 0 ? 0 : 1, o - 1, 0, 0);
        }
        return x;
    }

    /** OBJECTS without PARENTS. */
    static ProtoOrders apart(int objects) {
        ProtoOrders x = new ProtoOrders();
        for (int o = 0; o < objects; o++) {
            x.make(PLAIN, 0, 0, 0, 0);
        }
        return x;
    }

    /**
     * So many METHODS that all wait for the next: SLOTS of 16 in a line, each 15 GUARDS and a SUM
     * of the next SLOT; the last SLOT has fewer, and the SLOT behind it is left to the caller.
     */
    static ProtoOrders waiting(int methods) {
        ProtoOrders x = line(16);
        int left = methods;
        for (int slot = 0; slot < 16 && left > 0; slot++) {
            x.method(0, slot, SUM, slot + 1);
            left--;
            for (int o = 1; o < 16 && left > 0; o++) {
                x.method(o, slot, GUARD, slot);
                left--;
            }
        }
        return x;
    }

    /** What a DRAW below n does, by a SEED in an array of one. */
    static int drawn(int[] seed, int n) {
        seed[0] = seed[0] * 1103515245 + 12345;
        return (seed[0] >>> 16) % n;
    }

    /**
     * Something of all there is: the four KINDS, SLOTS, WAYS, a CALL, THE IMAGE (not as things
     * stand), a ROW of each SORT in SHELVES 0 to 3, OBJECTS 1 (FIRM) and 3 (STILL) in 4 and 5,
     * NOTHING in 6, an empty ROW of ints in 7, the FAULT 0, a REFUSAL.
     */
    static void common(ProtoOrders x) {
        x.make(PLAIN, 0, 0, 0, 0);
        x.make(FIRM, 1, 0, 0, 0);
        x.make(LAST, 1, 0, 0, 0);
        reading(x, "new 3<1 a=1 f:9.5");
        x.make(PLAIN, 1, 0, 0, 0);
        x.make(PLAIN, 1, 4, 0, 0);
        x.value(0, 0, 5);
        x.method(0, 1, ADD, 3);
        x.method(0, 2, SET, 3);
        x.method(1, 1, NEXT, 1);
        x.value(2, 4, -7);
        x.value(5, 0, MOST);
        x.way(0, 0, 0, MAIN, ADD, 1);
        x.way(0, 4, 0, BEFORE, SET, 2);
        x.way(7, 5, 4, AROUND, GUARD, -9);
        x.seed(77);
        x.image();
        x.value(4, 9, 44);
        x.way(1, 0, 0, AFTER, COUNT, 0);
        x.seed(78);
        x.call(0, 5, 4, 10);
        for (int sort = 0; sort < 4; sort++) {
            x.row(sort, sort, 3 + sort);
            for (int i = 0; i < 3 + sort; i++) {
                x.set(sort, i, 10 * sort - i);
            }
        }
        x.show(4, 1);
        x.show(5, 3);
        x.row(7, 2, 0);
        x.read(7);
    }

    /** The same with as many OBJECTS as may be. */
    static void fullOfObjects(ProtoOrders x) {
        common(x);
        for (int o = 6; o < 16; o++) {
            x.make(PLAIN, 0, 0, 0, 0);
        }
    }

    /** The same with as many WAYS as may be. */
    static void fullOfWays(ProtoOrders x) {
        common(x);
        for (int way = 4; way < 32; way++) {
            x.way(2, 0, 0, MAIN, ADD, way);
        }
    }
}
