/** GENERIC CALLS: promises 25 to 30 and their Terms. */
final class SentencesOfCalls extends TestBase {
    private static final String WAY = "-1 GENERIC, OBJECTS; -6 SORT, FUNCTION, k; -7.";

    private SentencesOfCalls() {
    }

    /** One OBJECT, and so many WAYS of these FUNCTIONS for it, k as told. */
    private static void ways(ProtoOrders x, int many, int sort, int function, int k) {
        for (int i = 0; i < many; i++) {
            x.way(0, 0, 0, sort, function, k);
        }
    }

    /** One OBJECT with a VALUE in each SLOT: no NEXT of a WAY is a SLOT. */
    private static ProtoOrders slotted() {
        ProtoOrders x = line(2);
        for (int slot = 0; slot < 16; slot++) {
            x.value(0, slot, 700 + slot);
            x.value(1, slot, 800 + slot);
        }
        return x;
    }

    private static void applies(String what, ProtoOrders x, int a, int b, int sort, int... ways) {
        due(what + " applies", x.applies(0, a, b, sort, NONE), ways.length);
        for (int i = 0; i < ways.length; i++) {
            due(what + " applies " + i, x.applies(0, a, b, sort, i), ways[i]);
        }
        due(what + " applies, the end", x.applies(0, a, b, sort, ways.length), NONE);
    }

    // ---- Terms

    @Sentence(in = "Terms 3", says = "GENERICS 0 to 7.")
    static void generics() {
        ProtoOrders x = line(1);
        for (int generic = 0; generic < 8; generic++) {
            due("a WAY", x.way(generic, 0, 0, MAIN, ADD, generic), generic);
        }
        for (int generic = 0; generic < 8; generic++) {
            due("its own alone", x.applies(generic, 0, 0, MAIN, NONE), 1);
            due("it", x.applies(generic, 0, 0, MAIN, 0), generic);
            due("no TIE", x.tie(generic, 0, 0), 0);
            due("a CALL", x.call(generic, 0, 0, 100), 0);
            due("it gives", x.given(), 100 + generic);
        }
        for (int none : NO_GENERICS) {
            due("a WAY", x.way(none, 0, 0, MAIN, ADD, 0), -1);
            due("applies", x.applies(none, 0, 0, MAIN, 0), -11);
            due("a TIE", x.tie(none, 0, 0), -1);
            due("a CALL", x.call(none, 0, 0, 0), -1);
        }
    }

    @Sentence(in = "Terms 3", says = "WAYS have numbers, from 0 on, 32 at most:")
    static void thirtyTwoWays() {
        ProtoOrders x = line(1);
        for (int way = 0; way < 32; way++) {
            due("ahead there is none", x.wayOf(way, 0), -5);
            due("a WAY", x.way(way % 8, 0, 0, way % 4, way % 10, way), way);
            due("WAYS", x.status(1), way + 1);
            due("its k", x.wayOf(way, 5), 100 + way);
        }
        due("the 33rd", x.way(0, 0, 0, MAIN, ADD, 0), -7);
        due("there is no 32", x.wayOf(32, 0), -5);
        due("there is a 31", x.wayOf(31, 0), 7);
        due("the first", x.wayOf(0, 5), 100);
        ProtoOrders y = line(1);
        ways(y, 31, MAIN, NEXT, 1);
        y.way(0, 0, 0, MAIN, ADD, 0);
        due("32 APPLY", y.applies(0, 0, 0, MAIN, NONE), 32);
        due("the first that stands", y.applies(0, 0, 0, MAIN, 0), 31);
        due("the last that stands", y.applies(0, 0, 0, MAIN, 31), 0);
        due("none behind", y.applies(0, 0, 0, MAIN, 32), NONE);
    }

    @Sentence(in = "Terms 3", says = "a SORT (0 MAIN, 1 BEFORE, 2 AFTER, 3 AROUND)")
    static void sorts() {
        for (int sort = 0; sort < 4; sort++) {
            ProtoOrders x = line(1);
            x.way(0, 0, 0, MAIN, ADD, 10);
            x.way(0, 0, 0, sort, SET, 5);
            for (int each = 0; each < 4; each++) {
                due("as SORT " + each, x.applies(0, 0, 0, each, NONE), (each == MAIN ? 1 : 0) + (each == sort ? 1 : 0));
            }
            // BEFORE and AFTER SET, the other gives; as MAIN or AROUND it gives itself.
            calls("SORT " + sort, x, 0, 0, 1, 0, sort == BEFORE || sort == AFTER ? 11 : 1);
            due("SET", x.slotOf(0, 5, 2), sort == AFTER ? 11 : 1);
        }
        for (int none : new int[] {-1, 4}) {
            due("SORT " + none, line(1).way(0, 0, 0, none, ADD, 0), -6);
        }
    }

    @Sentence(in = "Terms 3", says = "its WAYS that APPLY are those of which p is in the ORDER of a and q in that of b;")
    static void whichApply() {
        for (int p = 0; p < 4; p++) {
            for (int q = 0; q < 4; q++) {
                ProtoOrders x = diamond();
                x.way(0, p, q, BEFORE, ADD, 0);
                for (int a = 0; a < 4; a++) {
                    for (int b = 0; b < 4; b++) {
                        boolean both = x.distance(a, p) != NONE && x.distance(b, q) != NONE;
                        due(p + ", " + q + " to " + a + ", " + b, x.applies(0, a, b, BEFORE, NONE), both ? 1 : 0);
                    }
                }
            }
        }
        ProtoOrders x = line(16);
        x.way(0, 0, 0, MAIN, ADD, 0);
        x.way(0, 15, 15, MAIN, ADD, 0);
        applies("the very last of both ORDERS", x, 15, 15, MAIN, 1, 0);
        applies("not the one below", x, 14, 15, MAIN, 0);
        applies("nor here", x, 15, 14, MAIN, 0);
        applies("both itself", x, 0, 0, MAIN, 0);
    }

    @Sentence(in = "Terms 3", says = "FAR is the DISTANCE of a to p and that of b to q together.")
    static void howFar() {
        // One WAY in the middle, and one as far, nearer, or farther; the later made is ahead of its likes.
        for (int p = 0; p < 16; p++) {
            for (int q = 0; q < 16; q++) {
                ProtoOrders x = line(16);
                x.way(0, p, q, MAIN, ADD, 0);
                x.way(0, 8, 7, MAIN, ADD, 0);
                int far = 15 - p + 15 - q;
                boolean ahead = far < 15 || far == 15 && p > 8;
                due("the first with " + p + ", " + q, x.applies(0, 15, 15, MAIN, 0), ahead ? 0 : 1);
                due("a TIE with " + p + ", " + q, x.tie(0, 15, 15), far == 15 ? 1 : 0);
            }
        }
    }

    @Sentence(in = "Terms 3", says = "They stand by FAR, the least first, of several by the DISTANCE of a to p, the least"
        + " first, of these by numbers, the later made first.")
    static void howTheyStand() {
        // For (2, 2) FAR and the DISTANCE of a: 0: 4 2; 1: 2 0; 2: 2 2; 3: 2 1; 4: 2 1; 5: 0 0; 6: 3 1.
        int[][] told = {{0, 0}, {2, 0}, {0, 2}, {1, 1}, {1, 1}, {2, 2}, {1, 0}};
        for (int sort = 0; sort < 4; sort++) {
            ProtoOrders x = line(3);
            for (int[] two : told) {
                x.way(0, two[0], two[1], sort, ADD, 0);
            }
            applies("in SORT " + sort, x, 2, 2, sort, 5, 1, 4, 3, 2, 6, 0);
            applies("of a nearer b", x, 2, 0, sort, 1, 6, 0);
            applies("of a nearer a", x, 0, 2, sort, 2, 0);
            applies("of nearer ones", x, 1, 1, sort, 4, 3, 6, 0);
            applies("of another SORT", x, 2, 2, (sort + 1) % 4);
        }
    }

    @Sentence(in = "Terms 3", says = "TIE: the first two MAIN ones that APPLY have the same FAR.")
    static void ties() {
        ProtoOrders x = line(2);
        due("none", x.tie(0, 1, 1), 0);
        x.way(0, 0, 0, MAIN, ADD, 0);
        due("one", x.tie(0, 1, 1), 0);
        x.way(0, 0, 0, BEFORE, ADD, 0);
        x.way(0, 0, 0, AFTER, ADD, 0);
        x.way(0, 0, 0, AROUND, ADD, 0);
        x.way(1, 0, 0, MAIN, ADD, 0);
        due("one MAIN of its GENERIC", x.tie(0, 1, 1), 0);
        x.way(0, 0, 0, MAIN, ADD, 0);
        due("two of one FAR", x.tie(0, 1, 1), 1);
        x.way(0, 0, 1, MAIN, ADD, 0);
        due("the first stands alone", x.tie(0, 1, 1), 0);
        due("where it doesn't APPLY", x.tie(0, 1, 0), 1);
        x.way(0, 1, 0, MAIN, ADD, 0);
        due("one FAR, two DISTANCES", x.tie(0, 1, 1), 1);
        x.way(0, 1, 1, MAIN, ADD, 0);
        due("the first stands alone, then two", x.tie(0, 1, 1), 0);
        x.way(0, 1, 1, MAIN, ADD, 0);
        due("two nearest", x.tie(0, 1, 1), 1);
    }

    // ---- a CALL

    @Sentence(in = "Terms 3", says = "AROUND ones, one behind the other, then THE CORE; each RUNS its FUNCTION as above, with a"
        + " as SELF, and as NEXT the one behind it.")
    static void arounds() {
        for (int arounds : new int[] {0, 1, 2, 31}) {
            ProtoOrders x = line(1);
            x.way(0, 0, 0, MAIN, TIMES, 2);
            ways(x, arounds, AROUND, NEXT, 3);
            calls(arounds + " AROUND", x, 0, 0, 10, 0, 2 * (10 + 3 * arounds));
            due("WAYS ran", x.status(5), arounds + 1);
            due("the latest first", x.trace(0), arounds);
            due("MAIN last", x.trace(Math.min(arounds, 29)), arounds > 29 ? 2 : 0);
        }
        // a is SELF, b is not.
        ProtoOrders y = apart(2);
        y.way(0, 0, 1, MAIN, SET, 1);
        y.way(0, 0, 1, AROUND, SUM, 1);
        y.way(0, 0, 1, BEFORE, SET, 2);
        y.value(0, 1, 30);
        y.value(1, 1, 50);
        calls("SUM of a's", y, 0, 1, 5, 0, 35);
        due("THE CORE is not come to", y.objectOf(0, 5), 2);
        ProtoOrders z = apart(2);
        z.way(0, 0, 1, MAIN, SET, 1);
        z.way(0, 0, 1, BEFORE, SET, 2);
        z.way(0, 0, 1, AFTER, SET, 3);
        calls("SET by all", z, 0, 1, 5, 0, 5);
        due("in a", z.objectOf(0, 5), 14);
        due("not in b", z.objectOf(1, 5), 0);
    }

    @Sentence(in = "Terms 3", says = "each BEFORE RUNS with x (what it gives is left; its NEXT: there is none), in their"
        + " order;")
    static void befores() {
        ProtoOrders x = line(2);
        x.way(0, 0, 0, MAIN, ADD, 90);
        x.way(0, 0, 0, BEFORE, SET, 1);
        x.way(0, 1, 0, BEFORE, ADD, 50);
        x.way(0, 1, 0, BEFORE, SET, 2);
        x.way(0, 0, 0, AROUND, NEXT, 7);
        calls("BEFORES", x, 1, 0, 5, 0, 102);
        traces("BEFORES", x, 4, 3, 2, 1, 0);
        due("each with x", x.slotOf(1, 1, 2), 12);
        due("each with x", x.slotOf(1, 2, 2), 12);
        for (int function : new int[] {NEXT, TWICE, WHEN}) {
            ProtoOrders y = slotted();
            y.way(0, 0, 0, MAIN, ADD, 0);
            ways(y, 1, BEFORE, ADD, 0);
            ways(y, 1, BEFORE, function, 99);
            calls("a BEFORE has no NEXT", y, 0, 0, 5, 1, 0);
            traces("it FAILS", y, 2);
        }
        ProtoOrders z = line(1);
        ways(z, 1, MAIN, ADD, 0);
        ways(z, 2, BEFORE, GUARD, 9);
        calls("a GUARD makes that good", z, 0, 0, 5, 0, 5);
        traces("it goes on", z, 2, 1, 0);
    }

    @Sentence(in = "Terms 3", says = "then MAIN ones, one behind the other, are what gives (the NEXT of the last: there is"
        + " none);")
    static void mains() {
        ProtoOrders x = slotted();
        x.way(0, 0, 0, MAIN, NEXT, 1);
        x.way(0, 0, 1, MAIN, NEXT, 10);
        x.way(0, 1, 1, MAIN, TWICE, 0);
        calls("the last has no NEXT", x, 1, 1, 5, 1, 0);
        traces("all three ran", x, 2, 1, 0);
        x.way(0, 0, 0, MAIN, TIMES, 3);
        calls("it has one that gives", x, 1, 1, 5, 0, 135 + 30);
        // 5: 15 times 3 is 45; 45: 55 times 3 is 165. The earlier made is behind and isn't come to.
        traces("TWICE", x, 2, 1, 3, 1, 3);
        calls("the last alone", x, 0, 0, 5, 0, 15);
    }

    @Sentence(in = "Terms 3", says = "then each AFTER RUNS with what that gave, the last one first (what it gives is left; no"
        + " NEXT).")
    static void afters() {
        ProtoOrders x = line(2);
        x.way(0, 0, 0, MAIN, ADD, 90);
        x.way(0, 0, 0, AFTER, SET, 1);
        x.way(0, 1, 0, AFTER, ADD, 50);
        x.way(0, 1, 0, AFTER, SET, 2);
        calls("AFTERS", x, 1, 0, 5, 0, 95);
        traces("AFTERS", x, 0, 1, 2, 3);
        due("each with what MAIN gave", x.slotOf(1, 1, 2), 95);
        due("each with what MAIN gave", x.slotOf(1, 2, 2), 95);
        for (int function : new int[] {NEXT, TWICE, WHEN}) {
            ProtoOrders y = slotted();
            ways(y, 1, MAIN, ADD, 0);
            ways(y, 1, AFTER, function, 99);
            ways(y, 1, AFTER, ADD, 0);
            calls("an AFTER has no NEXT", y, 0, 0, 5, 1, 0);
            traces("it FAILS", y, 0, 1);
        }
        ProtoOrders z = line(1);
        ways(z, 1, MAIN, ADD, 0);
        ways(z, 2, AFTER, GUARD, 9);
        calls("a GUARD makes that good", z, 0, 0, 5, 0, 5);
        traces("it goes on", z, 0, 1, 2);
    }

    @Sentence(in = "Terms 3", says = "No MAIN one: THE CORE FAILS at once.")
    static void noMain() {
        ProtoOrders y = slotted();
        ways(y, 1, AROUND, NEXT, 1);
        calls("no SLOT is THE CORE", y, 0, 0, 5, 1, 0);
        calls("of a lower one neither", y, 1, 0, 5, 1, 0);
        ProtoOrders x = line(1);
        calls("no WAY", x, 0, 0, 5, 1, 0);
        traces("no WAY", x);
        ways(x, 1, BEFORE, SET, 1);
        ways(x, 1, AFTER, SET, 2);
        calls("BEFORE and AFTER alone", x, 0, 0, 5, 1, 0);
        traces("none ran", x);
        ways(x, 1, AROUND, NEXT, 1);
        calls("AROUND too", x, 0, 0, 5, 1, 0);
        traces("AROUND ran", x, 2);
        ways(x, 1, AROUND, GUARD, 8);
        calls("GUARD around", x, 0, 0, 5, 0, 8);
        traces("AROUND ran", x, 3, 2);
        due("no BEFORE", x.objectOf(0, 5), 0);
        ways(x, 1, MAIN, ADD, 1);
        calls("one MAIN", x, 0, 0, 5, 0, 7);
        due("BEFORE and AFTER", x.objectOf(0, 5), 6);
    }

    @Sentence(in = "Terms 3", says = "Each that APPLIES of a SORT 1 or 2 RUNS as often as THE CORE is come to.")
    static void howOftenTheCore() {
        int[] functions = {ADD, NEXT, TWICE};
        int[] times = {0, 1, 2};
        for (int i = 0; i < 3; i++) {
            ProtoOrders x = line(1);
            ways(x, 1, MAIN, ADD, 0);
            ways(x, 2, BEFORE, COUNT, 0);
            ways(x, 2, AFTER, COUNT, 0);
            ways(x, 1, AROUND, functions[i], 0);
            calls("AROUND " + functions[i], x, 0, 0, 5, 0, 5);
            due("WAYS ran", x.status(5), 1 + 5 * times[i]);
        }
        ProtoOrders x = line(1);
        ways(x, 1, MAIN, ADD, 0);
        ways(x, 1, BEFORE, COUNT, 0);
        ways(x, 1, AFTER, COUNT, 0);
        ways(x, 2, AROUND, TWICE, 0);
        calls("four times", x, 0, 0, 5, 0, 5);
        traces("four times", x, 4, 3, 1, 0, 2, 1, 0, 2, 3, 1, 0, 2, 1, 0, 2);
    }

    @Sentence(in = "Terms 3", says = "It FAILS, ENDS, SETS and counts METHODS as a send does.")
    static void endsOfCalls() {
        // Six TWICE run 63 times, MAIN 64 times, each time a SLOT too; NEXT ones around these.
        for (int nexts = 8; nexts < 12; nexts++) {
            ProtoOrders x = line(16);
            x.method(0, 0, ADD, 1);
            ways(x, 1, MAIN, SELF, 0);
            ways(x, 6, AROUND, TWICE, 0);
            ways(x, nexts, AROUND, NEXT, 0);
            int ran = nexts + 63 + 64 + 64;
            calls("with " + ran, x, 15, 0, 5, ran > 200 ? 2 : 0, ran > 200 ? 0 : 69);
            due("METHODS ran", x.status(6), Math.min(ran, 200));
            // The 201st is MAIN's SLOT, the 202nd would be with its WAY the 200th.
            due("WAYS ran", x.status(5), nexts + 127 - (ran > 201 ? 1 : 0));
        }
        // COUNT of a WAY behind a SLOT's METHODS.
        ProtoOrders y = line(2);
        y.method(0, 0, NEXT, 0);
        y.method(1, 0, GUARD, 0);
        ways(y, 1, MAIN, COUNT, 0);
        ways(y, 1, BEFORE, SELF, 0);
        calls("COUNT of all", y, 1, 0, 100, 0, 104);
        // SET of a FIRM one, and what is SET by an AFTER that FAILS then.
        for (int kind = 0; kind < 4; kind++) {
            ProtoOrders z = line(1);
            z.make(kind, 1, 0, 0, 0);
            ways(z, 1, MAIN, SET, 1);
            boolean may = kind == PLAIN || kind == LAST;
            calls("SET in KIND " + kind, z, 1, 0, 5, may ? 0 : 1, may ? 5 : 0);
            due("it is SET", z.objectOf(1, 5), may ? 2 : 0);
            ways(z, 1, AFTER, NEXT, 1);
            ways(z, 1, BEFORE, SET, 2);
            calls("an AFTER FAILS", z, 1, 0, 6, 1, 0);
            due("it isn't SET", z.objectOf(1, 5), may ? 2 : 0);
            due("it is as it was", z.slotOf(1, 1, 2), may ? 5 : 0);
        }
    }

    @Sentence(in = "Terms 3", says = "THE TRACE: WAYS that ran in the latest call(), in that order; the first 30.")
    static void tracesOfThirty() {
        for (int many : new int[] {1, 2, 29, 30, 31, 32}) {
            ProtoOrders x = line(1);
            ways(x, 1, MAIN, ADD, 0);
            ways(x, many - 1, AROUND, NEXT, 0);
            calls(many + " WAYS", x, 0, 0, 5, 0, 5);
            due("WAYS ran", x.status(5), many);
            for (int i = 0; i < 32; i++) {
                due("the " + i + "th", x.trace(i), i < 30 && i < many ? many - 1 - i : NONE);
            }
            x.call(1, 0, 0, 5);
            traces("the latest alone", x);
        }
    }

    // ---- way, wayOf

    @Sentence(in = "Promise 25", says = "A new WAY: its number.")
    static void wayBounds() {
        ProtoOrders x = line(16);
        due("the least of all", x.way(0, 0, 0, 0, 0, -99), 0);
        due("the most of all", x.way(7, 15, 15, 3, 9, 99), 1);
        int[] least = {0, 0, 0, 0, 0, 1};
        int[] most = {7, 15, 15, 3, 9, 199};
        for (int what = 0; what < 6; what++) {
            due("the least, " + what, x.wayOf(0, what), least[what]);
            due("the most, " + what, x.wayOf(1, what), most[what]);
        }
        due("p and q are two", x.way(1, 2, 3, 1, 4, 0), 2);
        due("p", x.wayOf(2, 1), 2);
        due("q", x.wayOf(2, 2), 3);
    }

    @Sentence(in = "Promise 25", says = "-1 GENERIC, OBJECTS;")
    static void wayNobody() {
        for (int none : NO_GENERICS) {
            refuses(TestBase::common, -1, "way", none, 0, 0, MAIN, ADD, 0);
            refuses(TestBase::common, -1, "way", none, 0, 0, 4, 10, 100);
        }
        for (int none : NO_OBJECTS) {
            refuses(TestBase::common, -1, "way", 0, none, 0, MAIN, ADD, 0);
            refuses(TestBase::common, -1, "way", 7, 0, none, MAIN, ADD, 0);
            refuses(TestBase::common, -1, "way", 0, 0, none, -1, -1, -100);
        }
        refuses(TestBase::fullOfWays, -1, "way", 8, 0, 0, MAIN, ADD, 0);
    }

    @Sentence(in = "Promise 25", says = "-6 SORT, FUNCTION, k;")
    static void wayWrong() {
        for (int wrong : new int[] {-1, 4, LEAST, MOST}) {
            refuses(TestBase::common, -6, "way", 0, 0, 0, wrong, ADD, 0);
        }
        for (int wrong : new int[] {-1, 10, LEAST, MOST}) {
            refuses(TestBase::common, -6, "way", 7, 5, 5, MAIN, wrong, 0);
        }
        for (int wrong : new int[] {-100, 100, LEAST, MOST}) {
            refuses(TestBase::common, -6, "way", 0, 0, 0, AROUND, GUARD, wrong);
        }
        refuses(TestBase::fullOfWays, -6, "way", 0, 0, 0, 4, ADD, 0);
        refuses(TestBase::fullOfWays, -6, "way", 0, 0, 0, MAIN, 10, 0);
        refuses(TestBase::fullOfWays, -6, "way", 0, 0, 0, MAIN, ADD, 100);
    }

    @Sentence(in = "Promise 25", says = WAY)
    static void wayRoom() {
        refuses(TestBase::fullOfWays, -7, "way", 0, 0, 0, MAIN, ADD, 0);
        refuses(TestBase::fullOfWays, -7, "way", 7, 5, 5, AROUND, GUARD, 99);
    }

    @Sentence(in = "Promise 26", says = "Of one: 0 GENERIC, 1 p, 2 q, 3 SORT, 4 FUNCTION, 5 k and 100.")
    static void wayOfBounds() {
        ProtoOrders x = line(16);
        for (int way = 0; way < 32; way++) {
            x.way(way % 8, way % 16, 15 - way % 16, way % 4, way % 10, 3 * way - 48);
        }
        for (int way : new int[] {0, 1, 15, 30, 31}) {
            int[] want = {way % 8, way % 16, 15 - way % 16, way % 4, way % 10, 3 * way + 52};
            for (int what = 0; what < 6; what++) {
                due("WAY " + way + ", " + what, x.wayOf(way, what), want[what]);
            }
        }
    }

    @Sentence(in = "Promise 26", says = "-5: no such one, another what.")
    static void wayOfRefused() {
        for (int none : new int[] {-1, 4, LEAST, MOST}) {
            refuses(TestBase::common, -5, "wayOf", none, 0);
            refuses(TestBase::common, -5, "wayOf", none, 6);
        }
        for (int what : new int[] {-1, 6, LEAST, MOST}) {
            refuses(TestBase::common, -5, "wayOf", 0, what);
            refuses(TestBase::common, -5, "wayOf", 3, what);
        }
        refuses(TestBase::fullOfWays, -5, "wayOf", 32, 0);
    }

    // ---- applies, tie

    @Sentence(in = "Promise 27", says = "WAYS of a SORT that APPLY: how many (i NONE), the i-th as they stand; NONE: no such.")
    static void appliesBounds() {
        ProtoOrders x = line(16);
        for (int sort = 0; sort < 4; sort++) {
            applies("none of SORT " + sort, x, 15, 15, sort);
            x.way(0, 0, 0, sort, ADD, 0);
            applies("one of SORT " + sort, x, 15, 15, sort, 2 * sort);
            x.way(0, 15, 0, sort, ADD, 0);
            applies("two of SORT " + sort, x, 15, 15, sort, 2 * sort + 1, 2 * sort);
            for (int i : new int[] {-2, 2, 3, 31, 32, LEAST, MOST}) {
                due("no " + i + "th", x.applies(0, 15, 15, sort, i), NONE);
            }
        }
        refused("applies", x, 0, 0, 0, 0, 0, 0, 0);
    }

    @Sentence(in = "Promise 27", says = "-11; -16 SORT (counted as -1, -6).")
    static void appliesRefused() {
        for (int none : NO_GENERICS) {
            refuses(TestBase::common, -11, "applies", none, 0, 0, MAIN, NONE);
            refuses(TestBase::common, -11, "applies", none, 0, 0, 4, 0);
        }
        for (int none : NO_OBJECTS) {
            refuses(TestBase::common, -11, "applies", 0, none, 0, MAIN, NONE);
            refuses(TestBase::common, -11, "applies", 7, 0, none, MAIN, NONE);
            refuses(TestBase::common, -11, "applies", 0, 0, none, -1, 0);
        }
        for (int wrong : new int[] {-1, 4, LEAST, MOST}) {
            refuses(TestBase::common, -16, "applies", 0, 0, 0, wrong, NONE);
            refuses(TestBase::common, -16, "applies", 7, 5, 5, wrong, 0);
        }
    }

    @Sentence(in = "Promise 28", says = "Whether there is a TIE (1, 0).")
    static void tieBounds() {
        ProtoOrders x = line(16);
        due("of none", x.tie(7, 15, 15), 0);
        x.way(7, 0, 15, MAIN, ADD, 0);
        due("of one", x.tie(7, 15, 15), 0);
        x.way(7, 15, 0, MAIN, ADD, 0);
        due("of two, 15 far both", x.tie(7, 15, 15), 1);
        x.way(7, 1, 15, MAIN, ADD, 0);
        due("14 far one", x.tie(7, 15, 15), 0);
        due("of none for them", x.tie(7, 14, 14), 0);
        refused("tie", x, 0, 0, 0, 0, 0, 0, 0);
    }

    @Sentence(in = "Promise 28", says = "-1.")
    static void tieRefused() {
        for (int none : NO_GENERICS) {
            refuses(TestBase::common, -1, "tie", none, 0, 0);
        }
        for (int none : NO_OBJECTS) {
            refuses(TestBase::common, -1, "tie", 0, none, 0);
            refuses(TestBase::common, -1, "tie", 7, 0, none);
        }
    }

    // ---- call, trace

    @Sentence(in = "Promise 29", says = "A CALL: 0 it gave something, 1 it FAILS, 2 it ENDS.")
    static void callOutcomes() {
        ProtoOrders x = line(16);
        x.method(0, 0, SELF, 0);
        x.way(7, 0, 15, MAIN, TIMES, 0);
        x.way(6, 0, 0, MAIN, SELF, 0);
        x.way(5, 0, 0, MAIN, NEXT, 0);
        due("it gave", x.call(7, 15, 15, 5), 0);
        due("0", x.given(), 0);
        due("it doesn't APPLY", x.call(7, 15, 14, 5), 1);
        due("it FAILS", x.call(5, 15, 15, 5), 1);
        due("it ENDS", x.call(6, 15, 15, 5), 2);
        due("one WAY ran", x.status(5), 1);
        due("200 METHODS ran", x.status(6), 200);
        refused("call", x, 0, 0, 0, 0, 0, 0, 0);
    }

    @Sentence(in = "Promise 29", says = "-1.")
    static void callRefused() {
        for (int none : NO_GENERICS) {
            refuses(TestBase::common, -1, "call", none, 0, 0, 5);
        }
        for (int none : NO_OBJECTS) {
            refuses(TestBase::common, -1, "call", 0, none, 0, 5);
            refuses(TestBase::common, -1, "call", 7, 0, none, 5);
        }
        due("what there is", made(TestBase::common).call(0, 5, 5, 5), 0);
    }

    @Sentence(in = "Promise 30", says = "THE TRACE's i-th WAY. NONE: none such.")
    static void traceBounds() {
        ProtoOrders x = line(1);
        for (int i : new int[] {-1, 0, 1, 29, 30, LEAST, MOST}) {
            due("no call yet, " + i, x.trace(i), NONE);
        }
        ways(x, 1, MAIN, ADD, 0);
        ways(x, 31, AROUND, NEXT, 0);
        x.call(0, 0, 0, 0);
        due("the first", x.trace(0), 31);
        due("the 30th", x.trace(29), 2);
        for (int i : new int[] {-1, 30, 31, 32, LEAST, MOST}) {
            due("none such, " + i, x.trace(i), NONE);
        }
        // It ENDS: the WAYS that ran, not the one that would have.
        ProtoOrders y = line(1);
        ways(y, 1, MAIN, ADD, 0);
        ways(y, 8, AROUND, TWICE, 0);
        due("it ENDS", y.call(0, 0, 0, 0), 2);
        due("200 WAYS", y.status(5), 200);
        due("the first", y.trace(0), 8);
        due("the ninth", y.trace(8), 0);
        // 28 AROUND and a SUM of as many METHODS as may be: the last WAY doesn't run.
        ProtoOrders z = waiting(199);
        z.value(0, 13, 0);
        z.way(0, 0, 0, MAIN, ADD, 0);
        z.way(0, 0, 0, BEFORE, SELF, 0);
        due("it ENDS by the last", z.call(0, 15, 0, 0), 2);
        traces("the last didn't run", z, 1);
        z.remove(1, 12);
        due("it gives", z.call(0, 15, 0, 0), 0);
        traces("the last ran", z, 1, 0);
    }
}
