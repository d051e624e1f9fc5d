/** OBJECTS, their ORDERS and SLOTS: promises 11 to 21 and their Terms. */
final class SentencesOfObjects extends TestBase {
    private static final String MAKE = "-1 KIND; -6 n; -1 PARENTS (in this order); -6 a PARENT twice, one that is LAST,"
        + " no ORDER; -7.";
    private static final String WOULD_BE = "-16 n; -11 PARENTS (in this order); -16 one twice, LAST (counted as -6, -1).";
    private static final String VALUE_ = "-1; -6 it is STILL.";
    private static final String METHOD_ = "-1; -6 FUNCTION, k, STILL.";
    private static final String REMOVE = "-1; -5 it has none; -6 STILL.";

    private SentencesOfObjects() {
    }

    // ---- Terms

    @Sentence(in = "Terms 1", says = "OBJECTS have numbers, from 0 on, 16 at most:")
    static void sixteenObjects() {
        ProtoOrders x = new ProtoOrders();
        for (int o = 0; o < 16; o++) {
            due("ahead there is none", x.objectOf(o, 0), -5);
            due("make", x.make(o % 4, 0, 0, 0, 0), o);
            due("OBJECTS", x.status(0), o + 1);
            due("its KIND", x.objectOf(o, 0), o % 4);
        }
        due("the 17th", x.make(PLAIN, 0, 0, 0, 0), -7);
        due("there is no 16", x.objectOf(16, 0), -5);
        due("there is a 15", x.objectOf(15, 0), 3);
        due("OBJECTS", x.status(0), 16);
    }

    @Sentence(in = "Terms 1", says = "PARENTS (a row of 0 to 3 different earlier OBJECTS)")
    static void threeParents() {
        ProtoOrders x = apart(3);
        for (int n = 0; n < 4; n++) {
            int o = x.make(PLAIN, n, 2, 0, 1);
            due("how many", x.objectOf(o, 1), n);
            due("the first", x.objectOf(o, 2), n > 0 ? 2 : NONE);
            due("the second", x.objectOf(o, 3), n > 1 ? 0 : NONE);
            due("the third", x.objectOf(o, 4), n > 2 ? 1 : NONE);
        }
        due("4 of them", x.make(PLAIN, 4, 2, 0, 1), -6);
        due("-1 of them", x.make(PLAIN, -1, 2, 0, 1), -6);
        due("itself", x.make(PLAIN, 1, 7, 0, 0), -1);
        due("the latest", x.make(PLAIN, 1, 6, 0, 0), 7);
    }

    @Sentence(in = "Terms 1", says = "1 FIRM (no SET by a send changes it), 2 LAST (no OBJECT may have it as PARENT)")
    static void firmAndLast() {
        ProtoOrders x = new ProtoOrders();
        reading(x, "new 0 a:6.1;new 1<0;new 2<0;new 3<0;new 0<0");
        int[] came = {0, 1, 0, 1, 0};
        for (int o = 0; o < 5; o++) {
            due("SET in " + o, x.send(o, 0, 7), came[o]);
            due("its SLOT", x.slotOf(o, 1, 2), came[o] == 0 ? 7 : 0);
        }
        due("value() changes a FIRM one", x.value(1, 1, 8), 0);
        due("its SLOT", x.slotOf(1, 1, 2), 8);
        due("method() too", x.method(1, 1, ADD, 8), 1);
        due("remove() too", x.remove(1, 1), 1);
        int[] parent = {5, 6, -6, 7, 8};
        for (int o = 0; o < 5; o++) {
            due(o + " as PARENT", x.make(LAST, 1, o, 0, 0), parent[o]);
        }
    }

    @Sentence(in = "Terms 1", says = "3 STILL, under FIRM (its SLOTS can't be told anew).")
    static void stillIsStill() {
        ProtoOrders x = new ProtoOrders();
        due("a TEXT tells them at first", reading(x, "new 3 a=1 b:6.2"), 1);
        due("value over a VALUE", x.value(0, 0, 2), -6);
        due("a new value", x.value(0, 5, 2), -6);
        due("method over a METHOD", x.method(0, 1, ADD, 2), -6);
        due("remove", x.remove(0, 0), -6);
        due("SET", x.send(0, 1, 4), 1);
        for (int start = 0; start < 200; start++) {
            x.seed(start);
            due("a day", x.days(1), 2);
        }
        due("SLOTS as they were", x.objectOf(0, 5), 3);
        due("a as it was", x.slotOf(0, 0, 2), 1);
        due("b as it was", x.slotOf(0, 1, 1) * 10 + x.slotOf(0, 1, 2), 62);
    }

    @Sentence(in = "Terms 1", says = "A SLOT holds a VALUE (an int), or a METHOD: a FUNCTION (0 to 9) and k (-99 to 99).")
    static void valuesAndMethods() {
        ProtoOrders x = line(1);
        for (int v : new int[] {LEAST, LEAST + 1, -100, -99, -1, 0, 1, 99, 100, MOST - 1, MOST}) {
            x.value(0, 0, v);
            due("a VALUE", x.slotOf(0, 0, 2), v);
            due("is no METHOD", x.slotOf(0, 0, 0) + x.slotOf(0, 0, 1), 0);
        }
        for (int function = -1; function <= 10; function++) {
            boolean may = function >= 0 && function <= 9;
            due("FUNCTION " + function, x.method(0, 1, function, 0), may ? function == 0 ? 0 : 1 : -6);
            due("it holds", x.slotOf(0, 1, 1), function < 0 ? 0 : Math.min(function, 9));
        }
        for (int k : new int[] {-99, -98, -1, 0, 1, 98, 99}) {
            due("k " + k, x.method(0, 2, ADD, k), k == -99 ? 0 : 1);
            due("it holds", x.slotOf(0, 2, 2), k);
        }
        for (int k : new int[] {-100, 100, LEAST, MOST}) {
            due("k " + k, x.method(0, 2, ADD, k), -6);
            due("it holds", x.slotOf(0, 2, 2), 99);
        }
    }

    @Sentence(in = "Terms 1", says = "ORDER of an OBJECT: itself, then MERGE of: the ORDER of its first PARENT, that of the"
        + " second, .., and the row of PARENTS.")
    static void ordersOfFewAndMany() {
        ProtoOrders x = line(16);
        orders("no PARENTS", x, 0, 0);
        orders("one", x, 1, 1, 0);
        orders("15 in a row", x, 15, 15, 14, 13, 12, 11, 10, 9, 8, 7, 6, 5, 4, 3, 2, 1, 0);
        x = diamond();
        orders("two with one of their own", x, 3, 3, 1, 2, 0);
        x.make(PLAIN, 3, 3, 2, 0);
        orders("PARENTS that are in one another", x, 4, 4, 3, 1, 2, 0);
        x.make(PLAIN, 0, 0, 0, 0);
        x.make(PLAIN, 3, 5, 2, 1);
        orders("three", x, 6, 6, 5, 2, 1, 0);
        // The ORDER of the first goes ahead, not the row of PARENTS: 7 under 1, 8 under 7 and 5.
        x.make(PLAIN, 1, 1, 0, 0);
        x.make(PLAIN, 2, 7, 5, 0);
        orders("all of the first ahead", x, 8, 8, 7, 1, 0, 5);
    }

    @Sentence(in = "Terms 1", says = "MERGE: of the rows in this order the first one that isn't empty and whose first isn't"
        + " behind the first of any of the rows is found; that first is next, and goes out of each row where it stands"
        + " first; again, till all are empty.")
    static void merges() {
        ProtoOrders x = diamond();
        x.make(PLAIN, 0, 0, 0, 0);
        // Rows 1 0, 4, 1 4: 1, then 0 ahead of 4.
        due("the first row goes on", x.wouldBe(2, 1, 4, 0, 1), 0);
        // Rows 1 0, 2 0, 1 2: behind 1, 0 waits for 2.
        due("a first that is behind waits", x.wouldBe(2, 1, 2, 0, 1), 2);
        due("and comes then", x.wouldBe(2, 1, 2, 0, 2), 0);
        // Rows 4, 1 0, 0, 4 1 0: the row of PARENTS holds nothing up here.
        due("three rows and theirs", x.wouldBe(3, 4, 1, 0, 2), 0);
        // Rows 2 0, 3 1 2 0, 2 3: 2 is behind 3, 3 behind 2.
        due("only the row of PARENTS stands against it", x.wouldBe(2, 2, 3, 0, NONE), 99);
        // Rows 3 1 2 0, 2 0, 3 2.
        due("the other way about", x.wouldBe(2, 3, 2, 0, NONE), 4);
        // The third row's first is behind the second's.
        due("of the third row", x.wouldBe(3, 4, 3, 1, NONE), 5);
        due("a third that stands against the second", x.wouldBe(3, 4, 1, 3, NONE), 99);
        // The last row of ORDERS goes out where it stands first too.
        int[] want = {2, 1, 0, 4, NONE};
        for (int i = 0; i < want.length; i++) {
            due("2, 1, 4: " + i, x.wouldBe(3, 2, 1, 4, i), want[i]);
        }
    }

    @Sentence(in = "Terms 1", says = "If none is found and not all are empty, there is no ORDER: such an OBJECT can't be.")
    static void noOrder() {
        ProtoOrders x = diamond();
        x.make(PLAIN, 2, 2, 1, 0);
        due("none at once", x.wouldBe(2, 0, 1, 0, NONE), 99);
        due("it can't be", x.make(PLAIN, 2, 0, 1, 0), -6);
        // 3 has 1 ahead of 2, 4 has 2 ahead of 1: found are 3 and 4, then none.
        due("none behind two", x.wouldBe(2, 3, 4, 0, NONE), 99);
        due("it can't be either", x.make(PLAIN, 2, 3, 4, 0), -6);
        due("nor by three", x.make(PLAIN, 3, 3, 4, 0), -6);
        due("OBJECTS", x.status(0), 5);
        due("all empty at once", x.make(PLAIN, 0, 0, 0, 0), 5);
    }

    @Sentence(in = "Terms 1", says = "DISTANCE of o to p: at which place p stands in the ORDER of o (0: itself); none, if it"
        + " doesn't.")
    static void distances() {
        ProtoOrders x = line(16);
        for (int p = 0; p < 16; p++) {
            due("down to " + p, x.distance(15, p), 15 - p);
            due("up from " + p, x.distance(p, 15), p == 15 ? 0 : NONE);
            due("itself", x.distance(p, p), 0);
        }
        x = diamond();
        due("to a second PARENT", x.distance(3, 2), 2);
        due("beside", x.distance(1, 2), NONE);
    }

    // ---- make

    @Sentence(in = "Promise 11", says = "A new OBJECT with the first n (0 to 3) of p, q, r as PARENTS: its number.")
    static void makeTakesTheFirst() {
        ProtoOrders x = apart(3);
        due("none of three that aren't", x.make(FIRM, 0, -1, 99, MOST), 3);
        due("the first of them", x.make(LAST, 1, 2, 99, 2), 4);
        due("the first two", x.make(STILL, 2, 2, 1, LEAST), 5);
        due("all three", x.make(PLAIN, 3, 2, 1, 0), 6);
        int[] kinds = {FIRM, LAST, STILL, PLAIN};
        for (int n = 0; n < 4; n++) {
            due("KIND", x.objectOf(3 + n, 0), kinds[n]);
            due("PARENTS", x.objectOf(3 + n, 1), n);
            due("it has no SLOTS", x.objectOf(3 + n, 5), 0);
        }
    }

    @Sentence(in = "Promise 11", says = "-1 KIND;")
    static void makeKind() {
        for (int kind : new int[] {-1, 4, LEAST, MOST}) {
            refuses(TestBase::common, -1, "make", kind, 0, 0, 0, 0);
            refuses(TestBase::common, -1, "make", kind, 4, -1, 2, 2);
            refuses(TestBase::fullOfObjects, -1, "make", kind, -1, 0, 0, 0);
        }
    }

    @Sentence(in = "Promise 11", says = "-6 n;")
    static void makeN() {
        for (int n : new int[] {-1, 4, LEAST, MOST}) {
            refuses(TestBase::common, -6, "make", PLAIN, n, 0, 4, 5);
            refuses(TestBase::common, -6, "make", PLAIN, n, -1, -1, -1);
            refuses(TestBase::fullOfObjects, -6, "make", PLAIN, n, 16, 0, 0);
        }
    }

    @Sentence(in = "Promise 11", says = "-1 PARENTS (in this order);")
    static void makeNoParents() {
        for (int none : NO_OBJECTS) {
            refuses(TestBase::common, -1, "make", PLAIN, 1, none, 0, 0);
            refuses(TestBase::common, -1, "make", PLAIN, 2, 0, none, 0);
            refuses(TestBase::common, -1, "make", PLAIN, 3, 0, 4, none);
            // Ahead of one twice, of LAST.
            refuses(TestBase::common, -1, "make", PLAIN, 3, 0, 0, none);
            refuses(TestBase::common, -1, "make", PLAIN, 2, 2, none, 0);
        }
        refuses(TestBase::fullOfObjects, -1, "make", PLAIN, 1, 16, 0, 0);
        due("the last one", made(TestBase::common).make(PLAIN, 1, 5, 0, 0), 6);
    }

    @Sentence(in = "Promise 11", says = "-6 a PARENT twice, one that is LAST, no ORDER;")
    static void makeWrongParents() {
        refuses(TestBase::common, -6, "make", PLAIN, 2, 4, 4, 0);
        refuses(TestBase::common, -6, "make", PLAIN, 3, 4, 0, 4);
        refuses(TestBase::common, -6, "make", PLAIN, 3, 5, 0, 0);
        refuses(TestBase::common, -6, "make", PLAIN, 3, 0, 0, 0);
        refuses(TestBase::common, -6, "make", PLAIN, 1, 2, 0, 0);
        refuses(TestBase::common, -6, "make", PLAIN, 2, 4, 2, 0);
        refuses(TestBase::common, -6, "make", PLAIN, 3, 5, 4, 2);
        refuses(TestBase::common, -6, "make", PLAIN, 2, 0, 4, 0);
        refuses(TestBase::common, -6, "make", PLAIN, 3, 1, 0, 4);
        due("an ORDER", made(TestBase::common).make(PLAIN, 3, 1, 5, 4), 6);
        refuses(TestBase::fullOfObjects, -6, "make", PLAIN, 2, 0, 0, 0);
        refuses(TestBase::fullOfObjects, -6, "make", PLAIN, 1, 2, 0, 0);
        refuses(TestBase::fullOfObjects, -6, "make", PLAIN, 2, 0, 1, 0);
    }

    @Sentence(in = "Promise 11", says = MAKE)
    static void makeRoom() {
        refuses(TestBase::fullOfObjects, -7, "make", PLAIN, 0, 0, 0, 0);
        refuses(TestBase::fullOfObjects, -7, "make", STILL, 3, 15, 5, 1);
        due("the 15th", apart(14).make(PLAIN, 0, 0, 0, 0), 14);
        due("the 16th", apart(15).make(PLAIN, 0, 0, 0, 0), 15);
        due("the 17th", apart(16).make(PLAIN, 0, 0, 0, 0), -7);
    }

    // ---- wouldBe

    @Sentence(in = "Promise 12", says = "WOULD BE: how many are in it without itself (i NONE), the i-th of these; NONE: no"
        + " such; 99: no ORDER.")
    static void wouldBeBounds() {
        ProtoOrders x = diamond();
        int[] want = {3, 1, 2, 0};
        due("how many", x.wouldBe(1, 3, 0, 0, NONE), 4);
        for (int i = 0; i < 4; i++) {
            due("the " + i + "th", x.wouldBe(1, 3, 0, 0, i), want[i]);
        }
        for (int i : new int[] {4, 5, 16, -2, LEAST, MOST}) {
            due("no " + i + "th", x.wouldBe(1, 3, 0, 0, i), NONE);
            due("no ORDER, " + i, x.wouldBe(2, 0, 3, 0, i), 99);
            due("none at all, " + i, x.wouldBe(0, 0, 0, 0, i), NONE);
        }
        due("none", x.wouldBe(0, -1, -1, -1, NONE), 0);
        due("none, the first", x.wouldBe(0, -1, -1, -1, 0), NONE);
        due("no ORDER, how many", x.wouldBe(2, 0, 3, 0, NONE), 99);
        due("no ORDER, the first", x.wouldBe(2, 0, 3, 0, 0), 99);
        due("n OBJECTS as before", x.status(0), 4);
        refused("would be", x, 0, 0, 0, 0, 0, 0, 0);
        x = line(16);
        due("16 of 16", x.wouldBe(1, 15, 0, 0, NONE), 16);
        due("the last of 16", x.wouldBe(1, 15, 0, 0, 15), 0);
        due("none behind it", x.wouldBe(1, 15, 0, 0, 16), NONE);
    }

    @Sentence(in = "Promise 12", says = WOULD_BE)
    static void wouldBeRefused() {
        for (int n : new int[] {-1, 4, LEAST, MOST}) {
            refuses(TestBase::common, -16, "wouldBe", n, 0, 4, 5, NONE);
            refuses(TestBase::common, -16, "wouldBe", n, -1, -1, -1, 0);
        }
        for (int none : NO_OBJECTS) {
            refuses(TestBase::common, -11, "wouldBe", 1, none, 0, 0, NONE);
            refuses(TestBase::common, -11, "wouldBe", 2, 0, none, 0, 0);
            refuses(TestBase::common, -11, "wouldBe", 3, 0, 4, none, 0);
            refuses(TestBase::common, -11, "wouldBe", 3, 2, 2, none, 0);
        }
        refuses(TestBase::common, -16, "wouldBe", 2, 4, 4, 0, NONE);
        refuses(TestBase::common, -16, "wouldBe", 3, 4, 0, 4, 0);
        refuses(TestBase::common, -16, "wouldBe", 3, 1, 0, 0, 0);
        refuses(TestBase::common, -16, "wouldBe", 1, 2, 0, 0, NONE);
        refuses(TestBase::common, -16, "wouldBe", 3, 5, 4, 2, 9);
        due("the n that may be", made(TestBase::common).wouldBe(3, 1, 5, 4, NONE), 4);
        due("one that isn't LAST", made(TestBase::common).wouldBe(1, 3, 2, 2, NONE), 3);
    }

    @Sentence(in = "Terms 3", says = "WOULD BE: the ORDER that an OBJECT with told PARENTS would have.")
    static void wouldBeAsItIs() {
        int[][] parents = {{0}, {3}, {1, 2}, {2, 1}, {3, 2}, {3, 1, 2}, {3, 2, 0}};
        for (int[] some : parents) {
            ProtoOrders x = diamond();
            int q = some.length > 1 ? some[1] : 0;
            int r = some.length > 2 ? some[2] : 0;
            int many = x.wouldBe(some.length, some[0], q, r, NONE);
            int[] would = new int[many];
            for (int i = 0; i < many; i++) {
                would[i] = x.wouldBe(some.length, some[0], q, r, i);
            }
            due("it is made", x.make(PLAIN, some.length, some[0], q, r), 4);
            due("as many and itself", x.objectOf(4, 7), many + 1);
            for (int i = 0; i < many; i++) {
                due("as it would be", x.order(4, i + 1), would[i]);
            }
        }
    }

    // ---- value, method, remove

    @Sentence(in = "Promise 13", says = "A SLOT of an OBJECT itself holds a VALUE: 1, 0 it had no such SLOT.")
    static void valueHadOne() {
        ProtoOrders x = line(16);
        for (int o : new int[] {0, 15}) {
            for (int slot : new int[] {0, 15}) {
                due("it had none", x.value(o, slot, LEAST), 0);
                due("it holds", x.slotOf(o, slot, 2), LEAST);
                due("it had one", x.value(o, slot, MOST), 1);
                due("it holds", x.slotOf(o, slot, 2), MOST);
                due("it had a METHOD", x.method(o, slot, SUM, 9) + 10 * x.value(o, slot, 0), 11);
                due("it holds a VALUE", x.slotOf(o, slot, 0) + x.slotOf(o, slot, 1) + x.slotOf(o, slot, 2), 0);
            }
        }
        due("itself, not by a PARENT", x.value(1, 0, 5), 0);
        due("the PARENT's stays", x.slotOf(0, 0, 2), 0);
        due("SLOTS", x.status(2), 5);
    }

    @Sentence(in = "Promise 13", says = VALUE_)
    static void valueRefused() {
        for (int none : NO_OBJECTS) {
            refuses(TestBase::common, -1, "value", none, 0, 1);
        }
        for (int none : NO_SLOTS) {
            refuses(TestBase::common, -1, "value", 0, none, 1);
            refuses(TestBase::common, -1, "value", 3, none, 1);
        }
        refuses(TestBase::common, -6, "value", 3, 0, 1);
        refuses(TestBase::common, -6, "value", 3, 15, 1);
        due("FIRM is not STILL", made(TestBase::common).value(1, 1, 1), 1);
        due("LAST is not STILL", made(TestBase::common).value(2, 4, 1), 1);
    }

    @Sentence(in = "Promise 14", says = "A SLOT of an OBJECT itself holds a METHOD: 1, 0 it had no such SLOT.")
    static void methodHadOne() {
        ProtoOrders x = line(16);
        for (int o : new int[] {0, 15}) {
            for (int slot : new int[] {0, 15}) {
                due("it had none", x.method(o, slot, ADD, -99), 0);
                due("it holds", x.slotOf(o, slot, 1) * 1000 + x.slotOf(o, slot, 2), -99);
                due("it had one", x.method(o, slot, GUARD, 99), 1);
                due("it holds", x.slotOf(o, slot, 1) * 1000 + x.slotOf(o, slot, 2), 9099);
                due("it had a VALUE", x.value(o, slot, 4) + 10 * x.method(o, slot, ADD, 0), 11);
                due("it holds a METHOD", x.slotOf(o, slot, 0), 1);
            }
        }
        due("itself, not by a PARENT", x.method(1, 0, NEXT, 5), 0);
        due("METHODS", x.status(3), 5);
    }

    @Sentence(in = "Promise 14", says = METHOD_)
    static void methodRefused() {
        for (int none : NO_OBJECTS) {
            refuses(TestBase::common, -1, "method", none, 0, ADD, 1);
            refuses(TestBase::common, -1, "method", none, 0, 10, 100);
        }
        for (int none : NO_SLOTS) {
            refuses(TestBase::common, -1, "method", 0, none, ADD, 1);
            refuses(TestBase::common, -1, "method", 3, none, -1, 1);
        }
        for (int wrong : new int[] {-1, 10, LEAST, MOST}) {
            refuses(TestBase::common, -6, "method", 0, 0, wrong, 1);
        }
        for (int wrong : new int[] {-100, 100, LEAST, MOST}) {
            refuses(TestBase::common, -6, "method", 0, 0, ADD, wrong);
        }
        refuses(TestBase::common, -6, "method", 3, 0, ADD, 1);
        refuses(TestBase::common, -6, "method", 3, 15, GUARD, -99);
        due("FIRM is not STILL", made(TestBase::common).method(1, 1, GUARD, 99), 1);
    }

    @Sentence(in = "Promise 15", says = "A SLOT of an OBJECT itself is no more: 1.")
    static void removeOne() {
        ProtoOrders x = line(2);
        for (int slot : new int[] {0, 15}) {
            x.value(0, slot, 3);
            x.method(1, slot, ADD, 3);
            due("a METHOD", x.remove(1, slot), 1);
            due("it is no more", x.slotOf(1, slot, 0) + x.slotOf(1, slot, 2), 0);
            due("the PARENT's is FOUND", x.where(1, slot), 0);
            due("again", x.remove(1, slot), -5);
            due("a VALUE", x.remove(0, slot), 1);
            due("nothing is FOUND", x.where(1, slot), NONE);
        }
        due("SLOTS", x.status(2), 0);
    }

    @Sentence(in = "Promise 15", says = REMOVE)
    static void removeRefused() {
        for (int none : NO_OBJECTS) {
            refuses(TestBase::common, -1, "remove", none, 0);
        }
        for (int none : NO_SLOTS) {
            refuses(TestBase::common, -1, "remove", 0, none);
            refuses(TestBase::common, -1, "remove", 3, none);
        }
        refuses(TestBase::common, -5, "remove", 0, 15);
        refuses(TestBase::common, -5, "remove", 4, 0);
        // Ahead of STILL.
        refuses(TestBase::common, -5, "remove", 3, 1);
        refuses(TestBase::common, -6, "remove", 3, 0);
        refuses(TestBase::common, -6, "remove", 3, 5);
        due("FIRM is not STILL", made(TestBase::common).remove(1, 1), 1);
    }

    // ---- objectOf

    @Sentence(in = "Promise 16", says = "0 KIND, 1 how many PARENTS, 2 to 4 PARENTS (NONE: fewer), 5 SLOTS it has itself"
        + " (bits), 6 SLOTS FOUND for it (bits), 7 how many in its ORDER, 8 FAMILY (bits).")
    static void objectOfBounds() {
        ProtoOrders x = line(16);
        x.value(0, 0, 1);
        x.method(0, 15, ADD, 1);
        x.value(15, 7, 1);
        int[] first = {0, 0, NONE, NONE, NONE, 0x8001, 0x8001, 1, 0xFFFF};
        int[] last = {0, 1, 14, NONE, NONE, 0x80, 0x8081, 16, 0x8000};
        int[] middle = {0, 1, 6, NONE, NONE, 0, 0x8001, 8, 0xFF80};
        for (int what = 0; what < 9; what++) {
            due("of the first, " + what, x.objectOf(0, what), first[what]);
            due("of the last, " + what, x.objectOf(15, what), last[what]);
            due("of one between, " + what, x.objectOf(7, what), middle[what]);
        }
        for (int slot = 0; slot < 16; slot++) {
            x.value(3, slot, 0);
        }
        due("all SLOTS itself", x.objectOf(3, 5), 65535);
        due("all SLOTS FOUND", x.objectOf(15, 6), 65535);
        due("FOUND ahead of it", x.objectOf(2, 6), 0x8001);
        due("none itself", apart(2).objectOf(1, 5), 0);
        due("none FOUND", line(16).objectOf(15, 6), 0);
    }

    @Sentence(in = "Promise 16", says = "-5: no such one, another what.")
    static void objectOfRefused() {
        for (int none : NO_OBJECTS) {
            refuses(TestBase::common, -5, "objectOf", none, 0);
            refuses(TestBase::common, -5, "objectOf", none, 9);
        }
        for (int what : new int[] {-1, 9, LEAST, MOST}) {
            refuses(TestBase::common, -5, "objectOf", 0, what);
            refuses(TestBase::common, -5, "objectOf", 5, what);
        }
        refuses(TestBase::fullOfObjects, -5, "objectOf", 16, 8);
    }

    @Sentence(in = "Terms 3", says = "FAMILY: OBJECTS (bits) in whose ORDER p is.")
    static void families() {
        ProtoOrders x = diamond();
        x.make(PLAIN, 0, 0, 0, 0);
        int[] want = {15, 2 + 8, 4 + 8, 8, 16};
        for (int o = 0; o < 5; o++) {
            due("FAMILY of " + o, x.objectOf(o, 8), want[o]);
        }
    }

    // ---- order, distance, where, hidden

    @Sentence(in = "Promise 17", says = "The i-th of the ORDER; NONE: no such.")
    static void orderBounds() {
        ProtoOrders x = diamond();
        int[] want = {3, 1, 2, 0};
        for (int i = 0; i < 4; i++) {
            due("the " + i + "th", x.order(3, i), want[i]);
        }
        for (int i : new int[] {-1, 4, 5, 16, LEAST, MOST}) {
            due("no " + i + "th", x.order(3, i), NONE);
        }
        due("one", x.order(0, 0), 0);
        due("no more", x.order(0, 1), NONE);
        refused("order", x, 0, 0, 0, 0, 0, 0, 0);
    }

    @Sentence(in = "Promise 17", says = "-11 (counted as -1).")
    static void orderRefused() {
        for (int none : NO_OBJECTS) {
            refuses(TestBase::common, -11, "order", none, 0);
            refuses(TestBase::common, -11, "order", none, -1);
        }
        refuses(TestBase::fullOfObjects, -11, "order", 16, 0);
    }

    @Sentence(in = "Promise 18", says = "DISTANCE; NONE.")
    static void distanceBounds() {
        ProtoOrders x = diamond();
        int[] want = {3, 1, 2, 0};
        for (int p = 0; p < 4; p++) {
            due("DISTANCE of 3 to " + p, x.distance(3, p), want[p]);
            due("DISTANCE of 0 to " + p, x.distance(0, p), p == 0 ? 0 : NONE);
        }
        refused("distance", x, 0, 0, 0, 0, 0, 0, 0);
    }

    @Sentence(in = "Promise 18", says = "-11 (counted as -1).")
    static void distanceRefused() {
        for (int none : NO_OBJECTS) {
            refuses(TestBase::common, -11, "distance", none, 0);
            refuses(TestBase::common, -11, "distance", 0, none);
            refuses(TestBase::common, -11, "distance", none, none);
        }
    }

    @Sentence(in = "Terms 3", says = "WHERE: the OBJECT in which a SLOT is FOUND.")
    static void whereOfTwo() {
        ProtoOrders x = diamond();
        x.value(0, 4, 1);
        due("below both", x.where(3, 4), 0);
        x.value(2, 4, 1);
        due("in the second PARENT", x.where(3, 4), 2);
        due("not for the first", x.where(1, 4), 0);
        x.method(1, 4, ADD, 0);
        due("in the first", x.where(3, 4), 1);
        x.value(3, 4, 1);
        due("in itself", x.where(3, 4), 3);
    }

    @Sentence(in = "Promise 19", says = "WHERE; NONE: it isn't FOUND.")
    static void whereBounds() {
        ProtoOrders x = line(16);
        for (int slot : new int[] {0, 15}) {
            due("not yet", x.where(15, slot), NONE);
            x.value(0, slot, 0);
            due("in the very last of the ORDER", x.where(15, slot), 0);
            x.method(1, slot, ADD, 0);
            due("in the one ahead", x.where(15, slot), 1);
            due("not for its PARENT", x.where(0, slot), 0);
            x.value(15, slot, 0);
            due("in itself", x.where(15, slot), 15);
            due("not below", x.where(14, slot), 1);
        }
        refused("where", x, 0, 0, 0, 0, 0, 0, 0);
    }

    @Sentence(in = "Promise 19", says = "-11 (counted as -1).")
    static void whereRefused() {
        for (int none : NO_OBJECTS) {
            refuses(TestBase::common, -11, "where", none, 0);
        }
        for (int none : NO_SLOTS) {
            refuses(TestBase::common, -11, "where", 0, none);
            refuses(TestBase::common, -11, "where", 5, none);
        }
    }

    @Sentence(in = "Terms 3", says = "HIDDEN: SLOTS (bits) of p that aren't FOUND in p for o, though p is in its ORDER.")
    static void hiddenBounds() {
        ProtoOrders x = line(16);
        due("none of none", x.hidden(15, 0), 0);
        for (int slot = 0; slot < 16; slot++) {
            x.value(0, slot, 1);
        }
        due("none of all", x.hidden(15, 0), 0);
        x.value(1, 0, 1);
        due("the first", x.hidden(15, 0), 1);
        x.method(14, 15, ADD, 1);
        due("the last", x.hidden(15, 0), 0x8001);
        due("of another", x.hidden(13, 0), 1);
        for (int slot = 0; slot < 16; slot++) {
            x.value(15, slot, 1);
        }
        due("all", x.hidden(15, 0), 65535);
        due("those of the one between", x.hidden(15, 1), 1);
        due("none of its own", x.hidden(15, 15), 0);
        due("none of one without", x.hidden(15, 7), 0);
    }

    @Sentence(in = "Promise 20", says = "HIDDEN.")
    static void hiddenOfTwo() {
        ProtoOrders x = diamond();
        x.value(0, 0, 1);
        x.value(0, 15, 1);
        x.method(2, 15, ADD, 1);
        x.method(1, 7, ADD, 1);
        x.value(2, 7, 1);
        due("of 0 for 3", x.hidden(3, 0), 0x8000);
        due("of 0 for 1", x.hidden(1, 0), 0);
        due("of 2 for 3", x.hidden(3, 2), 128);
        due("of 1 for 3", x.hidden(3, 1), 0);
        due("of 2 for 2", x.hidden(2, 2), 0);
        refused("hidden", x, 0, 0, 0, 0, 0, 0, 0);
    }

    @Sentence(in = "Promise 20", says = "-1; -6 p isn't in the ORDER of o.")
    static void hiddenRefused() {
        for (int none : NO_OBJECTS) {
            refuses(TestBase::common, -1, "hidden", none, 0);
            refuses(TestBase::common, -1, "hidden", 0, none);
        }
        refuses(TestBase::common, -6, "hidden", 0, 1);
        refuses(TestBase::common, -6, "hidden", 4, 5);
        refuses(TestBase::common, -6, "hidden", 1, 2);
        due("itself", made(TestBase::common).hidden(0, 0), 0);
        due("in its ORDER", made(TestBase::common).hidden(1, 0), 2);
    }

    // ---- slotOf

    @Sentence(in = "Promise 21", says = "Of a SLOT of an OBJECT itself: 0 whether it is a METHOD (1, 0), 1 its FUNCTION (0: a"
        + " VALUE), 2 its VALUE, or k.")
    static void slotOfItself() {
        ProtoOrders x = line(2);
        for (int function = 0; function < 10; function++) {
            x.method(1, 15, function, 9 * function - 40);
            due("a METHOD", x.slotOf(1, 15, 0), 1);
            due("its FUNCTION", x.slotOf(1, 15, 1), function);
            due("its k", x.slotOf(1, 15, 2), 9 * function - 40);
            x.value(1, 15, LEAST + function);
            due("a VALUE", x.slotOf(1, 15, 0), 0);
            due("no FUNCTION", x.slotOf(1, 15, 1), 0);
            due("its VALUE", x.slotOf(1, 15, 2), LEAST + function);
        }
    }

    @Sentence(in = "Promise 21", says = "0 if there is none, or no such what (nothing is refused).")
    static void slotOfBounds() {
        ProtoOrders x = line(16);
        for (int o : new int[] {0, 15}) {
            for (int slot : new int[] {0, 15}) {
                x.method(o, slot, GUARD, -99);
                due("a METHOD", x.slotOf(o, slot, 0), 1);
                due("its FUNCTION", x.slotOf(o, slot, 1), 9);
                due("its k", x.slotOf(o, slot, 2), -99);
                for (int what : new int[] {-1, 3, LEAST, MOST}) {
                    due("what " + what, x.slotOf(o, slot, what), 0);
                }
                for (int what = 0; what < 3; what++) {
                    due("a SLOT it hasn't itself", x.slotOf(14, slot, what), 0);
                }
            }
        }
        for (int what = 0; what < 3; what++) {
            for (int none : new int[] {-1, 16, LEAST, MOST}) {
                due("no OBJECT", x.slotOf(none, 0, what), 0);
                due("no SLOT", x.slotOf(0, none, what), 0);
            }
        }
        x.value(0, 0, MOST);
        due("a VALUE", x.slotOf(0, 0, 0), 0);
        due("no FUNCTION", x.slotOf(0, 0, 1), 0);
        due("its VALUE", x.slotOf(0, 0, 2), MOST);
        x.remove(0, 0);
        due("it is no more", x.slotOf(0, 0, 2), 0);
        refused("slotOf", x, 0, 0, 0, 0, 0, 0, 0);
    }
}
