/** SENDS: promises 22 to 24 and their Terms. */
final class SentencesOfSends extends TestBase {
    private SentencesOfSends() {
    }

    /** SLOT a of the last of a line holds this METHOD; the one ahead of it gives what it gets. */
    private static ProtoOrders one(int function, int k) {
        ProtoOrders x = line(2);
        x.method(0, 0, ADD, 0);
        x.method(1, 0, function, k);
        return x;
    }

    /** The METHOD has no NEXT one. */
    private static ProtoOrders alone(int function, int k) {
        ProtoOrders x = line(1);
        x.method(0, 0, function, k);
        return x;
    }

    // ---- what is FOUND

    @Sentence(in = "Terms 2", says = "SLOT s of o is FOUND in the first OBJECT of the ORDER of o that has it; the NEXT one: in"
        + " the first such behind that.")
    static void foundAndNext() {
        ProtoOrders x = line(16);
        x.value(0, 15, 5);
        gives("in the very last of the ORDER", x, 15, 15, 0, 5);
        x.method(15, 15, NEXT, 0);
        gives("the NEXT one is the very last", x, 15, 15, 0, 5);
        x.value(7, 15, 6);
        gives("the NEXT one is between", x, 15, 15, 0, 6);
        gives("not behind one between", x, 6, 15, 0, 5);
        x.remove(15, 15);
        gives("in the one between", x, 15, 15, 0, 6);
        x = diamond();
        x.value(1, 0, 11);
        x.value(2, 0, 22);
        x.method(3, 0, NEXT, 0);
        gives("the first of two", x, 3, 0, 0, 11);
        x.method(1, 0, NEXT, 0);
        gives("the NEXT of the first is beside it", x, 3, 0, 0, 22);
        fails("but not of the first alone", x, 1, 0, 0, 1);
    }

    @Sentence(in = "Terms 2", says = "SEND s to o with x: it isn't FOUND: FAILS.")
    static void notFound() {
        ProtoOrders x = line(16);
        for (int slot : new int[] {0, 15}) {
            fails("none has it", x, 15, slot, 1, 1);
            due("no METHOD ran", x.status(6), 0);
            x.value(15, slot, 1);
            fails("one has it that isn't in the ORDER", x, 14, slot, 1, 1);
            x.remove(15, slot);
            fails("it is no more", x, 15, slot, 1, 1);
        }
        refused("a SEND that FAILS", x, 0, 0, 0, 0, 0, 0, 0);
    }

    @Sentence(in = "Terms 2", says = "A VALUE gives that.")
    static void valueGives() {
        ProtoOrders x = line(2);
        for (int v : new int[] {LEAST, -1, 0, 1, MOST}) {
            x.value(0, 3, v);
            gives("a VALUE", x, 0, 3, 9, v);
            gives("a PARENT's VALUE", x, 1, 3, LEAST, v);
            due("no METHOD ran", x.status(6), 0);
        }
    }

    // ---- the FUNCTIONS

    @Sentence(in = "Terms 2", says = "A METHOD RUNS, with o as SELF; by its FUNCTION it gives (all wrapping):")
    static void allWrap() {
        // ADD, NEXT, SUM, COUNT add, TIMES times: at the most, at the least.
        for (int function : new int[] {ADD, NEXT, SUM, COUNT, TIMES}) {
            ProtoOrders x = one(function, 2);
            x.value(0, 2, 2);
            int more = function == COUNT ? 1 : 2;
            int[] with = {MOST - more, MOST - more + 1, MOST, LEAST, LEAST + 1};
            for (int each : with) {
                gives("FUNCTION " + function, x, 1, 0, each, function == TIMES ? each * 2 : each + more);
            }
        }
        // SELF is who is sent to, however far the METHOD is.
        ProtoOrders y = line(16);
        y.method(0, 0, SET, 1);
        for (int o : new int[] {15, 7, 0}) {
            gives("SELF " + o, y, o, 0, 100 + o, 100 + o);
            due("it is SET in", y.slotOf(o, 1, 2), 100 + o);
        }
        due("in no other", y.status(2), 4);
    }

    @Sentence(in = "Terms 2", says = "0 ADD: x + k.")
    static void add() {
        gives("ADD", alone(ADD, 99), 0, 0, 1, 100);
        gives("ADD 0", alone(ADD, 0), 0, 0, -7, -7);
        gives("ADD -99", alone(ADD, -99), 0, 0, 98, -1);
        gives("ADD needs no NEXT, has one", one(ADD, 5), 1, 0, 1, 6);
        gives("up to the most", alone(ADD, 1), 0, 0, MOST - 1, MOST);
        gives("above it", alone(ADD, 1), 0, 0, MOST, LEAST);
        gives("down to the least", alone(ADD, -1), 0, 0, LEAST + 1, LEAST);
        gives("below it", alone(ADD, -1), 0, 0, LEAST, MOST);
    }

    @Sentence(in = "Terms 2", says = "1 TIMES: x * k.")
    static void times() {
        gives("TIMES", alone(TIMES, -99), 0, 0, 2, -198);
        gives("TIMES 0", alone(TIMES, 0), 0, 0, MOST, 0);
        gives("TIMES -1 of the least", alone(TIMES, -1), 0, 0, LEAST, LEAST);
        gives("TIMES 2 above the most", alone(TIMES, 2), 0, 0, 1 << 30, LEAST);
        gives("TIMES 2 up to it", alone(TIMES, 2), 0, 0, (1 << 30) - 1, MOST - 1);
        gives("TIMES 99 wraps", alone(TIMES, 99), 0, 0, MOST, MOST * 99);
    }

    @Sentence(in = "Terms 2", says = "2 NEXT: what the NEXT one gives with x + k.")
    static void next() {
        gives("NEXT", one(NEXT, 5), 1, 0, 1, 6);
        gives("NEXT wraps", one(NEXT, 99), 1, 0, MOST, MOST + 99);
        gives("NEXT wraps below", one(NEXT, -99), 1, 0, LEAST, LEAST - 99);
        fails("NEXT without one", alone(NEXT, 5), 0, 0, 1, 1);
        ProtoOrders x = one(NEXT, 5);
        x.method(0, 0, NEXT, 5);
        fails("the NEXT has none", x, 1, 0, 1, 1);
        due("both ran", x.status(6), 2);
        x.value(0, 0, -3);
        gives("the NEXT is a VALUE", x, 1, 0, 1, -3);
    }

    @Sentence(in = "Terms 2", says = "3 TWICE: what the NEXT one gives with (what the NEXT one gives with x).")
    static void twice() {
        ProtoOrders x = one(TWICE, 50);
        x.method(0, 0, TIMES, -3);
        gives("TWICE", x, 1, 0, 5, 45);
        due("three ran", x.status(6), 3);
        x.method(0, 0, ADD, 99);
        gives("TWICE wraps", x, 1, 0, MOST, MOST + 198);
        x.value(0, 0, 8);
        gives("TWICE of a VALUE", x, 1, 0, 5, 8);
        due("one ran", x.status(6), 1);
        fails("TWICE without NEXT", alone(TWICE, 0), 0, 0, 5, 1);
        // The first gives 4 less, by which the second FAILS.
        x = line(4);
        x.method(3, 0, TWICE, 0);
        x.method(2, 0, NEXT, -4);
        x.method(1, 0, WHEN, 0);
        gives("both give", x, 3, 0, 8, 0);
        fails("the second FAILS", x, 3, 0, 7, 1);
        due("five ran", x.status(6), 5);
        fails("the first FAILS", x, 3, 0, 3, 1);
        due("three ran", x.status(6), 3);
    }

    @Sentence(in = "Terms 2", says = "4 SELF: what a SEND of SLOT k to SELF gives with x.")
    static void self() {
        ProtoOrders x = line(3);
        x.method(0, 0, SELF, 1);
        x.method(1, 1, ADD, 10);
        x.method(2, 1, ADD, 20);
        gives("to the receiver", x, 2, 0, 5, 25);
        gives("to another receiver", x, 1, 0, 5, 15);
        fails("that hasn't it", x, 0, 0, 5, 1);
        due("one ran", x.status(6), 1);
        x.value(0, 1, 77);
        gives("a VALUE", x, 0, 0, 5, 77);
    }

    @Sentence(in = "Terms 2", says = "5 SUM: x, and what a SEND of SLOT k to SELF gives with 0.")
    static void sum() {
        ProtoOrders x = line(2);
        x.method(0, 0, SUM, 1);
        x.value(0, 1, 9);
        gives("SUM", x, 1, 0, 5, 14);
        x.value(1, 1, 1);
        gives("SUM up to the most", x, 1, 0, MOST - 1, MOST);
        gives("SUM above it", x, 1, 0, MOST, LEAST);
        x.value(1, 1, LEAST);
        gives("SUM below the least", x, 1, 0, -1, MOST);
        x.method(1, 1, ADD, 4);
        gives("with 0", x, 1, 0, 5, 9);
        x.remove(1, 1);
        x.remove(0, 1);
        fails("SUM of none", x, 1, 0, 5, 1);
    }

    @Sentence(in = "Terms 2", says = "6 SET: SLOT k of SELF itself becomes VALUE x (not if SELF is FIRM or STILL: FAILS); x.")
    static void set() {
        for (int kind = 0; kind < 4; kind++) {
            ProtoOrders x = line(1);
            x.method(0, 0, SET, 1);
            x.value(0, 1, 5);
            x.make(kind, 1, 0, 0, 0);
            for (int v : new int[] {LEAST, 0, MOST}) {
                if (kind == PLAIN || kind == LAST) {
                    gives("SET", x, 1, 0, v, v);
                    due("SELF has it itself", x.objectOf(1, 5), 2);
                    due("a VALUE", x.slotOf(1, 1, 0), 0);
                    due("it is", x.slotOf(1, 1, 2), v);
                } else {
                    fails("SET", x, 1, 0, v, 1);
                    due("SELF has none", x.objectOf(1, 5), 0);
                }
                due("the METHOD ran", x.status(6), 1);
                due("not the finder's", x.slotOf(0, 1, 2), 5);
            }
        }
        ProtoOrders y = line(1);
        y.method(0, 0, SET, 0);
        gives("SET over itself", y, 0, 0, 12, 12);
        gives("a VALUE then", y, 0, 0, 5, 12);
        due("no METHOD", y.status(3), 0);
    }

    @Sentence(in = "Terms 2", says = "7 WHEN: x, if it is k at least, else what the NEXT one gives with x.")
    static void when() {
        for (int k : new int[] {-99, -1, 0, 1, 99}) {
            ProtoOrders x = one(WHEN, k);
            x.method(0, 0, TIMES, 2);
            gives("one below", x, 1, 0, k - 1, 2 * (k - 1));
            due("two ran", x.status(6), 2);
            gives("as much", x, 1, 0, k, k);
            due("one ran", x.status(6), 1);
            gives("one above", x, 1, 0, k + 1, k + 1);
            fails("one below without NEXT", alone(WHEN, k), 0, 0, k - 1, 1);
            gives("as much without NEXT", alone(WHEN, k), 0, 0, k, k);
            gives("the most", x, 1, 0, MOST, MOST);
            gives("the least", x, 1, 0, LEAST, 0);
        }
    }

    @Sentence(in = "Terms 2", says = "8 COUNT: how many METHODS ran till then in this act, it too, and x.")
    static void count() {
        gives("the first", alone(COUNT, 55), 0, 0, 10, 11);
        gives("wraps", alone(COUNT, 0), 0, 0, MOST, LEAST);
        ProtoOrders x = one(NEXT, 0);
        x.method(0, 0, COUNT, 0);
        gives("the second", x, 1, 0, 0, 2);
        gives("each act anew", x, 1, 0, 0, 2);
        x.method(1, 0, TWICE, 0);
        gives("the second and the third", x, 1, 0, 0, 5);
        // The 200th: SUMS and GUARDS ahead of it.
        x = waiting(199);
        x.method(0, 13, COUNT, 0);
        gives("the 200th", x, 15, 0, 1000, 1200);
    }

    @Sentence(in = "Terms 2", says = "9 GUARD: what the NEXT one gives with x; if that FAILS, k.")
    static void guard() {
        ProtoOrders x = one(GUARD, -99);
        gives("the NEXT gives", x, 1, 0, 5, 5);
        x.remove(0, 0);
        gives("there is no NEXT", x, 1, 0, 5, -99);
        due("one ran", x.status(6), 1);
        gives("k 99", alone(GUARD, 99), 0, 0, 5, 99);
        x.method(0, 0, WHEN, 3);
        gives("the NEXT gives all the same", x, 1, 0, 3, 3);
        gives("the NEXT FAILS", x, 1, 0, 2, -99);
        x.method(0, 0, SELF, 9);
        gives("a SEND FAILS", x, 1, 0, 3, -99);
        x = line(2);
        x.make(FIRM, 1, 1, 0, 0);
        x.method(1, 0, GUARD, 4);
        x.method(0, 0, SET, 0);
        gives("SET FAILS", x, 2, 0, 3, 4);
        x.method(2, 0, GUARD, 6);
        gives("the nearest GUARD", x, 2, 0, 3, 4);
        x.method(1, 0, NEXT, 0);
        gives("the one that is left", x, 2, 0, 3, 6);
    }

    @Sentence(in = "Terms 2", says = "(SLOT k: k modulo 16, from 0 to 15.)")
    static void slotK() {
        for (int k = -99; k <= 99; k++) {
            int slot = ((k % 16) + 16) % 16;
            ProtoOrders x = line(2);
            for (int each = 0; each < 16; each++) {
                x.value(0, each, 100 + each);
            }
            x.make(PLAIN, 0, 0, 0, 0);
            int from = slot == 5 ? 6 : 5;
            x.method(1, from, SELF, k);
            gives("SELF " + k, x, 1, from, 0, 100 + slot);
            x.method(1, from, SUM, k);
            gives("SUM " + k, x, 1, from, 1000, 1100 + slot);
            x.method(2, from, SET, k);
            gives("SET " + k, x, 2, from, 7, 7);
            due("SET SLOT of " + k, x.slotOf(2, slot, 2), 7);
        }
        int[] ks = {-99, -33, -32, -31, -17, -16, -15, -1, 0, 15, 16, 17, 31, 32, 99};
        int[] slots = {13, 15, 0, 1, 15, 0, 1, 15, 0, 15, 0, 1, 15, 0, 3};
        for (int i = 0; i < ks.length; i++) {
            ProtoOrders x = line(1);
            x.method(0, 7, SET, ks[i]);
            gives("SET " + ks[i], x, 0, 7, 8, 8);
            due("its SLOT", x.slotOf(0, slots[i], 2), 8);
        }
    }

    @Sentence(in = "Terms 2", says = "The NEXT one: a VALUE gives that; a METHOD RUNS, SELF as it is; there is none: FAILS.")
    static void nextOnes() {
        ProtoOrders x = line(3);
        x.method(2, 0, NEXT, 0);
        x.method(1, 0, SELF, 1);
        x.value(2, 1, 9);
        x.value(1, 1, 8);
        gives("SELF as it is", x, 2, 0, 0, 9);
        x.method(1, 0, SET, 2);
        gives("SET in SELF as it is", x, 2, 0, 6, 6);
        due("SELF has it", x.slotOf(2, 2, 2), 6);
        due("the NEXT hasn't", x.objectOf(1, 5), 3);
        x.value(1, 0, 5);
        gives("a VALUE", x, 2, 0, 0, 5);
        x.remove(1, 0);
        fails("there is none", x, 2, 0, 0, 1);
        x.value(0, 0, 4);
        gives("the last of the ORDER", x, 2, 0, 0, 4);
    }

    // ---- the end of an act

    @Sentence(in = "Terms 2", says = "The 201st METHOD that would RUN in an act ENDS it (no GUARD helps).")
    static void the201st() {
        for (int methods = 198; methods <= 203; methods++) {
            ProtoOrders x = waiting(methods);
            x.value(0, 13, 1000);
            boolean ends = methods > 200;
            due("with " + methods, x.send(15, 0, 5), ends ? 2 : 0);
            due("it gave", x.given(), ends ? 0 : 1005);
            due("METHODS that ran", x.status(6), Math.min(methods, 200));
            due("trial", x.trial(15, 0, 5, 0), ends ? 2 : 0);
            due("trial's METHODS", x.trial(15, 0, 5, 1), Math.min(methods, 200));
            x.remove(0, 13);
            // 12 SLOTS of GUARDS; the nearest makes it good, unless it ENDS.
            due("without the last SLOT, " + methods, x.send(15, 0, 5), ends ? 2 : 0);
            due("METHODS that ran", x.status(6), Math.min(methods, 200));
        }
        ProtoOrders y = line(3);
        y.method(2, 0, GUARD, 5);
        y.method(1, 0, GUARD, 6);
        y.method(0, 0, SELF, 0);
        fails("GUARDS for ever", y, 2, 0, 1, 2);
        due("200 ran", y.status(6), 200);
        y.method(0, 0, COUNT, 0);
        gives("the next act is free of it", y, 2, 0, 1, 4);
        // SUMS that wait when it ENDS wait no more.
        y.method(0, 0, SUM, 0);
        fails("SUMS for ever", y, 2, 0, 1, 2);
        y.value(0, 1, 1000);
        gives("none of them in the next act", y, 2, 1, 1, 1000);
        // The 200th can wait too: a GUARD with a k of its own.
        ProtoOrders z = waiting(192);
        z.method(8, 12, GUARD, 12);
        z.method(1, 12, GUARD, 55);
        for (int o = 2; o < 8; o++) {
            z.method(o, 12, GUARD, 12);
        }
        gives("the 200th makes it good", z, 15, 0, 5, 60);
        due("200 ran", z.status(6), 200);
        z.method(9, 12, GUARD, 12);
        fails("the 201st would", z, 15, 0, 5, 2);
        // 199 wait, and THE CORE, and the 200th.
        z.remove(9, 12);
        z.remove(8, 12);
        z.way(0, 0, 0, MAIN, SUM, 0);
        calls("the 200th behind THE CORE", z, 15, 0, 5, 0, 60);
        z.remove(7, 12);
        z.way(0, 0, 0, AROUND, GUARD, 9);
        calls("with a GUARD around THE CORE", z, 15, 0, 5, 0, 60);
        due("200 ran", z.status(6), 200);
        z.way(0, 0, 0, AROUND, GUARD, 9);
        calls("with two", z, 15, 0, 5, 2, 0);
    }

    /** SLOT a of the tenth: so many METHODS (200 or 201), the last ones SET b of it. */
    private static ProtoOrders setters(boolean tooMany) {
        ProtoOrders x = line(10);
        int[] functions = {SET, NEXT, TWICE, TWICE, TWICE, NEXT, TWICE, TWICE, tooMany ? NEXT : TWICE, tooMany ? TWICE : NEXT};
        for (int o = 0; o < 10; o++) {
            x.method(o, 0, functions[o], o == 0 ? 1 : 0);
        }
        return x;
    }

    @Sentence(in = "Terms 2", says = "If a send FAILS or ENDS, nothing that was SET in it stays;")
    static void nothingSetStays() {
        ProtoOrders x = setters(false);
        gives("200", x, 9, 0, 5, 5);
        due("it is SET", x.slotOf(9, 1, 2), 5);
        x = setters(true);
        fails("201", x, 9, 0, 5, 2);
        due("it isn't SET", x.objectOf(9, 5), 1);
        x.method(9, 1, TIMES, 7);
        fails("201 again", x, 9, 0, 5, 2);
        due("a METHOD as it was", x.slotOf(9, 1, 0) * 100 + x.slotOf(9, 1, 1) * 10 + x.slotOf(9, 1, 2), 117);
        x.value(9, 1, 66);
        fails("201 once more", x, 9, 0, 5, 2);
        due("a VALUE as it was", x.slotOf(9, 1, 2), 66);
        due("its METHODS ran", x.status(6), 200);
        // Of two SLOTS that BEFORES SET, MAIN FAILS: they are as they were, the earlier SET too.
        ProtoOrders y = line(2);
        y.value(1, 3, 8);
        y.way(0, 0, 0, BEFORE, SET, 3);
        y.way(0, 0, 0, BEFORE, SET, 15);
        y.way(0, 0, 0, BEFORE, SET, 3);
        y.way(0, 0, 0, MAIN, NEXT, 0);
        calls("MAIN FAILS", y, 1, 0, 5, 1, 0);
        due("SLOTS", y.objectOf(1, 5), 8);
        due("as it was", y.slotOf(1, 3, 2), 8);
    }

    @Sentence(in = "Terms 2", says = "what was SET in what a GUARD made good stays.")
    static void setUnderGuardStays() {
        ProtoOrders x = line(2);
        x.way(0, 0, 0, BEFORE, SET, 3);
        x.way(0, 0, 0, MAIN, NEXT, 0);
        x.way(0, 0, 0, AROUND, GUARD, 44);
        calls("GUARD makes it good", x, 1, 0, 5, 0, 44);
        due("SET in it", x.slotOf(1, 3, 2), 5);
        // By TWICE around: the second time with 44.
        x.way(0, 1, 0, AROUND, TWICE, 0);
        calls("GUARD makes it good TWICE", x, 1, 0, 6, 0, 44);
        due("SET in the second", x.slotOf(1, 3, 2), 44);
        // What ENDS in the end takes it along: 128 times GUARD.
        for (int i = 0; i < 7; i++) {
            x.way(1, 1, 0, AROUND, TWICE, 0);
        }
        x.way(1, 0, 0, AROUND, GUARD, 44);
        x.way(1, 0, 0, BEFORE, SET, 4);
        x.way(1, 0, 0, MAIN, NEXT, 0);
        due("it ENDS", x.call(1, 1, 0, 5), 2);
        due("not SET", x.objectOf(1, 5), 8);
    }

    // ---- send, given, trial

    @Sentence(in = "Promise 22", says = "A SEND: 0 it gave something, 1 it FAILS, 2 it ENDS.")
    static void sendOutcomes() {
        ProtoOrders x = line(16);
        x.value(0, 0, 0);
        x.method(0, 15, SELF, 15);
        for (int o : new int[] {0, 15}) {
            gives("it gave 0", x, o, 0, 5, 0);
            fails("it FAILS", x, o, 7, 5, 1);
            fails("it ENDS", x, o, 15, 5, 2);
        }
        refused("send", x, 0, 0, 0, 0, 0, 0, 0);
    }

    @Sentence(in = "Promise 22", says = "-1.")
    static void sendRefused() {
        for (int none : NO_OBJECTS) {
            refuses(TestBase::common, -1, "send", none, 0, 5);
        }
        for (int none : NO_SLOTS) {
            refuses(TestBase::common, -1, "send", 5, none, 5);
        }
        refuses(TestBase::fullOfObjects, -1, "send", 16, 16, 5);
        refuses(y -> {
            TestBase.common(y);
            y.send(5, 1, 40);
        }, -1, "send", 6, 1, 0);
    }

    @Sentence(in = "Promise 23", says = "What the latest send() or call() gave; 0: it didn't, or none yet.")
    static void givenBounds() {
        ProtoOrders x = line(1);
        due("none yet", x.given(), 0);
        x.value(0, 0, LEAST);
        x.method(0, 1, SELF, 1);
        x.way(0, 0, 0, MAIN, ADD, 1);
        x.way(1, 0, 0, MAIN, SELF, 1);
        x.way(2, 0, 0, MAIN, NEXT, 1);
        gives("a send", x, 0, 0, 0, LEAST);
        fails("it FAILS", x, 0, 2, 0, 1);
        x.send(0, 0, 0);
        fails("it ENDS", x, 0, 1, 0, 2);
        calls("a call", x, 0, 0, MOST - 1, 0, MOST);
        due("a call FAILS", x.call(2, 0, 0, 5), 1);
        due("it didn't", x.given(), 0);
        x.send(0, 0, 0);
        due("a call ENDS", x.call(1, 0, 0, 5), 2);
        due("it didn't", x.given(), 0);
        x.send(0, 0, 0);
        x.call(8, 0, 0, 5);
        x.send(0, 16, 5);
        x.trial(0, 1, 5, 0);
        x.row(0, 2, 2);
        x.judge(0, 0, 1, 1);
        x.days(1);
        x.image();
        x.restore();
        due("still the latest send's", x.given(), LEAST);
    }

    @Sentence(in = "Promise 24", says = "What a SEND would come to (what 0: as send()), how many METHODS would have RUN (1),"
        + " nothing changed.")
    static void trialBounds() {
        ProtoOrders x = setters(false);
        x.value(0, 15, 3);
        x.method(0, 14, SELF, 14);
        due("it would give", x.trial(9, 0, 5, 0), 0);
        due("200 would have RUN", x.trial(9, 0, 5, 1), 200);
        due("nothing SET", x.objectOf(9, 5), 1);
        due("a VALUE", x.trial(0, 15, 5, 0), 0);
        due("none would have RUN", x.trial(0, 15, 5, 1), 0);
        due("it would FAIL", x.trial(0, 13, 5, 0), 1);
        due("none would have RUN", x.trial(0, 13, 5, 1), 0);
        due("it would END", x.trial(9, 14, 5, 0), 2);
        due("200 would have RUN", x.trial(9, 14, 5, 1), 200);
        due("status 6 is of no send", x.status(6), 0);
        due("given is of no send", x.given(), 0);
        refused("trial", x, 0, 0, 0, 0, 0, 0, 0);
        // A SET over a METHOD and over a VALUE, and a new one, are put back.
        ProtoOrders y = line(2);
        y.method(0, 0, SET, 0);
        y.method(0, 1, SET, 2);
        y.value(1, 2, 50);
        due("SET over itself", y.trial(0, 0, 5, 0), 0);
        due("a METHOD still", y.slotOf(0, 0, 0) * 10 + y.slotOf(0, 0, 1), 16);
        due("SET over a VALUE", y.trial(1, 1, 5, 1), 1);
        due("the VALUE still", y.slotOf(1, 2, 2), 50);
        due("a new SET", y.trial(1, 0, 5, 0), 0);
        due("none still", y.objectOf(1, 5), 4);
    }

    @Sentence(in = "Promise 24", says = "-1; -5 another what.")
    static void trialRefused() {
        for (int none : NO_OBJECTS) {
            refuses(TestBase::common, -1, "trial", none, 0, 5, 0);
            refuses(TestBase::common, -1, "trial", none, 0, 5, 2);
        }
        for (int none : NO_SLOTS) {
            refuses(TestBase::common, -1, "trial", 5, none, 5, 1);
            refuses(TestBase::common, -1, "trial", 5, none, 5, -1);
        }
        for (int what : new int[] {-1, 2, LEAST, MOST}) {
            refuses(TestBase::common, -5, "trial", 5, 0, 5, what);
            refuses(TestBase::common, -5, "trial", 5, 15, 5, what);
        }
    }
}
