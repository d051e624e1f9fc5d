import java.util.Arrays;

/** Told TABLES, DAYS, SEED, THE IMAGE and status: promises 31 to 36 and their Terms. */
final class SentencesOfDays extends TestBase {
    private static final String JUDGE = "-11 also OBJECT, SLOT; -12; -13; -14 n; -15 fewer elements; -16 n above 80"
        + " (counted as -1 to -6).";

    private SentencesOfDays() {
    }

    // ---- judge

    /** A TABLE of so many twos in SHELF s: from, and what it times three is; from + 1, .. */
    private static void table(ProtoOrders x, int s, int sort, int twos, int from) {
        x.row(s, sort, 2 * twos);
        for (int i = 0; i < twos; i++) {
            x.set(s, 2 * i, from + i);
            x.set(s, 2 * i + 1, 3 * (from + i));
        }
    }

    @Sentence(in = "Promise 31", says = "WRONG of a told TABLE by the first n twos (0 to 80) of the ROW in SHELF s; NONE.")
    static void judgeBounds() {
        ProtoOrders x = line(16);
        x.method(0, 15, TIMES, 3);
        for (int s : new int[] {0, 7}) {
            table(x, s, 1, 80, -40);
            for (int n : new int[] {0, 1, 2, 79, 80}) {
                due("right, " + n, x.judge(s, 15, 15, n), NONE);
            }
            for (int wrong : new int[] {79, 78, 1, 0}) {
                x.set(s, 2 * wrong + 1, 500);
                due("till it", x.judge(s, 15, 15, wrong), NONE);
                due("with it", x.judge(s, 15, 15, wrong + 1), wrong);
                due("beyond it", x.judge(s, 15, 15, 80), wrong);
            }
        }
        x.row(1, 0, 0);
        due("none of none", x.judge(1, 15, 15, 0), NONE);
        x.row(1, 0, 5);
        due("two of five elements", x.judge(1, 15, 15, 2), NONE);
        due("three of five elements", x.judge(1, 15, 15, 3), -15);
        x.row(1, 0, 1);
        due("none of one", x.judge(1, 15, 15, 0), NONE);
        due("one of one", x.judge(1, 15, 15, 1), -15);
        due("given is of no send", x.given(), 0);
        due("status 6 is of no send", x.status(6), 0);
    }

    @Sentence(in = "Terms 3", says = "a ROW of twos, x and what a SEND gives with it (nothing it SETS stays): WRONG: the first"
        + " two by which it gives something else, FAILS or ENDS; NONE.")
    static void wrongOfTables() {
        ProtoOrders x = line(2);
        x.method(0, 0, WHEN, 3);
        x.method(0, 1, SELF, 1);
        x.method(0, 2, SET, 2);
        x.method(1, 3, SELF, 2);
        x.row(0, 2, 6);
        int[] table = {3, 3, 4, 4, 2, 0};
        for (int i = 0; i < 6; i++) {
            x.set(0, i, table[i]);
        }
        due("gives", x.judge(0, 1, 0, 2), NONE);
        due("FAILS, though 0 is told", x.judge(0, 1, 0, 3), 2);
        x.row(1, 2, 2);
        due("ENDS, though 0 is told", x.judge(1, 1, 1, 1), 0);
        due("not FOUND, though 0 is told", x.judge(1, 1, 15, 1), 0);
        due("SLOT c SETS itself", x.judge(0, 1, 2, 2), NONE);
        due("by each two anew", x.judge(0, 1, 3, 2), NONE);
        due("nothing is SET", x.objectOf(1, 5), 8);
        due("it is WRONG", x.judge(0, 1, 2, 3), 2);
        due("nothing is SET all the same", x.objectOf(1, 5), 8);
        due("SLOTS", x.status(2), 4);
    }

    @Sentence(in = "Terms 3", says = "(METHODS of all these SENDS count together, for what ENDS and for COUNT.)")
    static void methodsOfTables() {
        // Four METHODS a SEND: 50 SENDS have 200.
        ProtoOrders x = line(4);
        for (int o = 0; o < 4; o++) {
            x.method(o, 0, o == 0 ? TIMES : NEXT, o == 0 ? 3 : 0);
        }
        table(x, 0, 2, 51, 0);
        for (int n : new int[] {49, 50, 51}) {
            due("by " + n, x.judge(0, 3, 0, n), n == 51 ? 50 : NONE);
        }
        // Five at last: the 201st METHOD is in the 50th SEND.
        x.method(0, 1, TIMES, 3);
        x.method(1, 1, WHEN, 49);
        x.method(2, 1, NEXT, 0);
        x.method(3, 1, NEXT, 0);
        table(x, 0, 2, 51, 0);
        x.set(0, 2 * 49 + 1, 49);
        x.set(0, 2 * 50 + 1, 50);
        due("199 and four would be", x.judge(0, 3, 1, 51), 50);
        // The COUNT of the 80th is 80.
        x.method(0, 2, COUNT, 0);
        x.row(1, 2, 160);
        for (int i = 0; i < 80; i++) {
            x.set(1, 2 * i + 1, i + 1);
        }
        for (int n : new int[] {1, 79, 80}) {
            due("COUNT to " + n, x.judge(1, 0, 2, n), NONE);
        }
        x.send(3, 0, 1);
        due("an act of its own", x.judge(1, 0, 2, 80), NONE);
    }

    @Sentence(in = "Promise 31", says = JUDGE)
    static void judgeNobody() {
        for (int none : NO_SHELVES) {
            refuses(TestBase::common, -11, "judge", none, 0, 0, 0);
            refuses(TestBase::common, -11, "judge", none, 0, 0, -1);
        }
        for (int none : NO_OBJECTS) {
            refuses(TestBase::common, -11, "judge", 0, none, 0, 1);
            refuses(TestBase::common, -11, "judge", 4, none, 0, -1);
        }
        for (int none : NO_SLOTS) {
            refuses(TestBase::common, -11, "judge", 0, 0, none, 1);
            refuses(TestBase::common, -11, "judge", 6, 0, none, 81);
        }
    }

    @Sentence(in = "Promise 31", says = JUDGE)
    static void judgeNoRow() {
        refuses(TestBase::common, -12, "judge", 4, 0, 0, 0);
        refuses(TestBase::common, -12, "judge", 5, 0, 0, -1);
        refuses(TestBase::common, -13, "judge", 6, 0, 0, 0);
        refuses(TestBase::common, -13, "judge", 6, 5, 15, -1);
    }

    @Sentence(in = "Promise 31", says = "-14 n;")
    static void judgeBelow() {
        refuses(TestBase::common, -14, "judge", 0, 0, 0, -1);
        refuses(TestBase::common, -14, "judge", 7, 5, 15, LEAST);
        due("n 0", made(TestBase::common).judge(7, 5, 15, 0), NONE);
    }

    @Sentence(in = "Promise 31", says = "-15 fewer elements; -16 n above 80 (counted as -1 to -6).")
    static void judgeBeyond() {
        // The SHELVES have 3, 4, 5, 6 elements; more than 80 twos no ROW has, so -16 never comes.
        refuses(TestBase::common, -15, "judge", 0, 0, 0, 2);
        refuses(TestBase::common, -15, "judge", 1, 0, 0, 3);
        refuses(TestBase::common, -15, "judge", 3, 0, 0, 4);
        refuses(TestBase::common, -15, "judge", 7, 0, 0, 1);
        refuses(TestBase::common, -15, "judge", 0, 0, 0, 80);
        for (int n : new int[] {81, 82, 1 << 30, (1 << 30) + 1, MOST}) {
            refuses(TestBase::common, -15, "judge", 0, 0, 0, n);
            refuses(x -> {
                TestBase.common(x);
                x.row(0, 3, 160);
            }, -15, "judge", 0, 0, 0, n);
        }
        due("3 of 6 elements", made(TestBase::common).judge(3, 0, 0, 3), 0);
    }

    // ---- days

    @Sentence(in = "Terms 3", says = "A DRAW below n: SEED (1 at first) becomes SEED times 1103515245, and 12345 (an int,"
        + " wrapping); its upper 16 bits, no sign, modulo n.")
    static void draws() {
        due("SEED at first", new ProtoOrders().status(4), 1);
        int[] seed = {1};
        int[] upper = {16838, 38526, 10113, 50283, 63819};
        int[] seeds = {1103527590, -1770082073, 662824084, -999580867, -112468174};
        for (int i = 0; i < upper.length; i++) {
            due("DRAW " + i, drawn(seed, 65536), upper[i]);
            due("the SEED behind it", seed[0], seeds[i]);
        }
        // By these DRAWS: OBJECT 0, SLOT 14 (38526 modulo 16), 0 (10113 modulo 3), VALUE 83.
        ProtoOrders first = apart(1);
        due("the first day", first.days(1), 1);
        due("its VALUE", first.slotOf(0, 14, 2), 83);
        due("its SEED", first.status(4), -999580867);
        // One STILL OBJECT without SLOTS: the days are draws alone.
        for (int start : new int[] {1, 0, -1, 2, LEAST, MOST, 12345, -1103515245, 77, 78, 79, 80}) {
            ProtoOrders x = new ProtoOrders();
            x.make(STILL, 0, 0, 0, 0);
            x.seed(start);
            seed[0] = start;
            for (int day = 0; day < 20; day++) {
                due("no SLOTS", x.days(1), 0);
                drawn(seed, 1);
                drawn(seed, 16);
                if (drawn(seed, 3) == 1) {
                    drawn(seed, 100);
                }
                due("SEED behind day " + day + " from " + start, x.seed(seed[0]), seed[0]);
            }
        }
    }

    /** A SEED by which the first day is OBJECT o of so many, SLOT s, and this deed. */
    private static int seedFor(int objects, int o, int s, int deed) {
        for (int start = 0; start < 1000000; start++) {
            int[] seed = {start};
            if (drawn(seed, objects) == o && drawn(seed, 16) == s && drawn(seed, 3) == deed) {
                return start;
            }
        }
        throw new IllegalStateException("no such SEED");
    }

    @Sentence(in = "Terms 3", says = "o a DRAW below how many OBJECTS, s a DRAW below 16; a DRAW below 3: 0: SLOT s of o becomes"
        + " a VALUE, a DRAW below 100 (not of a STILL one: no such DRAW);")
    static void daysOfValues() {
        for (int objects : new int[] {1, 2, 16}) {
            for (int o : new int[] {0, objects - 1}) {
                for (int s : new int[] {0, 15}) {
                    for (int kind = 0; kind < 4; kind++) {
                        ProtoOrders x = new ProtoOrders();
                        for (int each = 0; each < objects; each++) {
                            x.make(kind, 0, 0, 0, 0);
                        }
                        int[] seed = {seedFor(objects, o, s, 0)};
                        x.seed(seed[0]);
                        drawn(seed, objects);
                        drawn(seed, 16);
                        drawn(seed, 3);
                        int v = kind == STILL ? 0 : drawn(seed, 100);
                        due("a day", x.days(1), kind == STILL ? 0 : 1);
                        due("its SLOT", x.objectOf(o, 5), kind == STILL ? 0 : 1 << s);
                        due("its VALUE", x.slotOf(o, s, 2), v);
                        due("SEED", x.status(4), seed[0]);
                    }
                }
            }
        }
        ProtoOrders y = line(1);
        y.method(0, 4, SUM, 7);
        y.seed(seedFor(1, 0, 4, 0));
        y.days(1);
        due("a VALUE over a METHOD", y.slotOf(0, 4, 0) + y.slotOf(0, 4, 1), 0);
    }

    @Sentence(in = "Terms 3", says = "1: SEND s to o with a DRAW below 100 (what it SETS stays, if it neither FAILS nor ENDS);")
    static void daysOfSends() {
        for (int kind = 0; kind < 4; kind++) {
            for (int s : new int[] {0, 15}) {
                ProtoOrders x = line(1);
                x.make(kind, 1, 0, 0, 0);
                x.method(0, s, SET, 7);
                int[] seed = {seedFor(2, 1, s, 1)};
                x.seed(seed[0]);
                drawn(seed, 2);
                drawn(seed, 16);
                drawn(seed, 3);
                int v = drawn(seed, 100);
                boolean may = kind == PLAIN || kind == LAST;
                due("a day", x.days(1), may ? 2 : 1);
                due("SET", x.objectOf(1, 5), may ? 128 : 0);
                due("to", x.slotOf(1, 7, 2), may ? v : 0);
                due("SEED, also if it FAILS", x.status(4), seed[0]);
                due("given is of no send", x.given(), 0);
                due("status 6 is of no send", x.status(6), 0);
            }
        }
        // It ENDS behind many SETS: eight TWICE.
        for (int twices = 6; twices < 9; twices++) {
            ProtoOrders x = line(twices + 1);
            for (int o = 0; o <= twices; o++) {
                x.method(o, 3, o == 0 ? SET : TWICE, 7);
            }
            x.seed(seedFor(twices + 1, twices, 3, 1));
            boolean ends = (2 << twices) - 1 > 200;
            due("a day with " + twices, x.days(1), twices + (ends ? 1 : 2));
            due("SET", x.objectOf(twices, 5), ends ? 8 : 8 + 128);
        }
    }

    @Sentence(in = "Terms 3", says = "2: SLOT s goes out of o (not of a STILL one).")
    static void daysOfRemovals() {
        for (int kind = 0; kind < 4; kind++) {
            for (int s : new int[] {0, 15}) {
                ProtoOrders x = new ProtoOrders();
                reading(x, "new " + kind + " " + (char) ('a' + s) + "=4");
                x.seed(seedFor(1, 0, s, 2));
                due("a day", x.days(1), kind == STILL ? 1 : 0);
                due("SLOT", x.objectOf(0, 5), kind == STILL ? 1 << s : 0);
                int[] seed = {seedFor(1, 0, s, 2)};
                drawn(seed, 1);
                drawn(seed, 16);
                drawn(seed, 3);
                due("no more draws", x.status(4), seed[0]);
                int start = seedFor(1, 0, (s + 1) % 16, 2);
                x.seed(start);
                due("one that it hasn't", x.days(1), kind == STILL ? 1 : 0);
            }
        }
    }

    /** A day's draws, if it is one of a SEND: OBJECT, SLOT, 1 (a SEND), with what. */
    private static int[] drawnDay(int[] seed, int objects) {
        return new int[] {drawn(seed, objects), drawn(seed, 16), drawn(seed, 3), drawn(seed, 100)};
    }

    @Sentence(in = "Terms 3", says = "DAYS by draws, n times (METHODS of all their SENDS count together, likewise):")
    static void methodsOfDays() {
        // Two days of SENDS: SLOT a with 199 METHODS (OBJECT 8) or 200 (9), then SLOT b, which SETS n.
        for (int o : new int[] {8, 9}) {
            int start = -1;
            int[] seed = {0};
            int[] first;
            int[] second;
            do {
                start++;
                seed[0] = start;
                first = drawnDay(seed, 10);
                second = drawnDay(seed, 10);
            } while (first[0] != o || first[1] != 0 || first[2] != 1 || second[1] != 1 || second[2] != 1);
            ProtoOrders x = line(10);
            int[] functions = {ADD, NEXT, TWICE, TWICE, TWICE, NEXT, TWICE, TWICE, TWICE, NEXT};
            for (int each = 0; each < 10; each++) {
                x.method(each, 0, functions[each], 0);
            }
            x.method(0, 1, SET, 13);
            due("METHODS of the first", x.trial(o, 0, 0, 1), o == 8 ? 199 : 200);
            x.seed(start);
            due("two days", x.days(2), o == 8 ? 12 : 11);
            due("SEED", x.status(4), seed[0]);
            due("SET", x.slotOf(second[0], 13, 2), o == 8 ? second[3] : 0);
            // The same in two acts.
            x.remove(second[0], 13);
            x.seed(start);
            x.days(1);
            due("the second alone", x.days(1), 12);
            due("SET", x.slotOf(second[0], 13, 2), second[3]);
        }
    }

    @Sentence(in = "Promise 32", says = "DAYS by draws, n (1 to 40): how many SLOTS all OBJECTS have themselves then.")
    static void daysBounds() {
        for (int n : new int[] {1, 2, 39, 40}) {
            ProtoOrders x = apart(3);
            x.value(0, 3, 1);
            x.method(2, 5, ADD, 1);
            int[] seed = {1};
            int[] slots = {8, 0, 32};
            for (int day = 0; day < n; day++) {
                int o = drawn(seed, 3);
                int bit = 1 << drawn(seed, 16);
                int deed = drawn(seed, 3);
                if (deed < 2) {
                    drawn(seed, 100);
                }
                slots[o] = deed == 0 ? slots[o] | bit : deed == 2 ? slots[o] & ~bit : slots[o];
            }
            int many = Arrays.stream(slots).map(Integer::bitCount).sum();
            due("days " + n, x.days(n), many);
            due("SLOTS", x.status(2), many);
            due("SEED", x.status(4), seed[0]);
            for (int o = 0; o < 3; o++) {
                due("SLOTS of " + o, x.objectOf(o, 5), slots[o]);
            }
        }
    }

    @Sentence(in = "Promise 32", says = "-5 no OBJECT; -6.")
    static void daysRefused() {
        for (int n : new int[] {-1, 0, 1, 40, 41, LEAST, MOST}) {
            refuses(x -> x.row(0, 0, 3), -5, "days", n);
        }
        for (int n : new int[] {-1, 0, 41, 42, LEAST, MOST}) {
            refuses(TestBase::common, -6, "days", n);
        }
    }

    // ---- seed

    @Sentence(in = "Promise 33", says = "SEED becomes v: what it was (nothing is refused).")
    static void seedBounds() {
        ProtoOrders x = new ProtoOrders();
        int was = 1;
        for (int v : new int[] {LEAST, MOST, 0, -1, 1, 1}) {
            due("what it was", x.seed(v), was);
            due("what it is", x.status(4), v);
            was = v;
        }
        refused("seed", x, 0, 0, 0, 0, 0, 0, 0);
    }

    // ---- image, restore

    @Sentence(in = "Promise 34", says = "THE IMAGE of all but SHELVES (and THE IMAGE, THE TRACE, what was given, status(5),"
        + " (6), REFUSALS, the FAULT) is taken: how many OBJECTS.")
    static void imageOfAllBut() {
        due("of none", new ProtoOrders().image(), 0);
        due("of one", line(1).image(), 1);
        due("of 16", line(16).image(), 16);
        ProtoOrders x = made(TestBase::fullOfWays);
        due("image", x.image(), 6);
        // All that the image leaves out is made another.
        x.row(0, 3, 7);
        x.set(0, 6, 9);
        x.show(6, 2);
        x.show(2, NONE);
        x.way(0, 0, 0, 4, 0, 0);
        x.value(0, 7, 7);
        due("a call", x.call(0, 0, 0, 30), 0);
        lay(x, 7, 1, "new 0;x");
        x.read(7);
        due("restore", x.restore(), 6);
        due("SHELF 0", x.holds(0) * 10 + x.element(0, 6), 1039);
        due("SHELF 2", x.holds(2), NONE);
        due("SHELF 6", x.holds(6), 2);
        due("THE TRACE", x.trace(0) * 100 + x.trace(1), -1);
        due("given", x.given(), 31);
        due("status 5", x.status(5), 1);
        due("status 6", x.status(6), 1);
        due("FAULT", x.fault(), 6);
        refused("REFUSALS", x, 0, 0, 0, 0, 0, 3, 0);
        // THE IMAGE is no part of itself.
        due("restore again", x.restore(), 6);
    }

    @Sentence(in = "Promise 35", says = "All is as THE IMAGE has it;")
    static void restoreOfAll() {
        ProtoOrders x = made(TestBase::common);
        x.seed(-5);
        x.image();
        long[] ahead = allOf(x);
        x = made(TestBase::common);
        x.seed(-5);
        x.image();
        for (int o = 0; o < 6; o++) {
            x.value(o, 0, 1);
            x.remove(o, 1);
            x.method(o, 9, GUARD, 9);
        }
        for (int o = 6; o < 16; o++) {
            x.make(o % 4, 1, 4, 0, 0);
            x.method(o, o, ADD, 1);
        }
        for (int way = 4; way < 32; way++) {
            x.way(3, 15, 15, AROUND, GUARD, 7);
        }
        x.seed(6);
        due("restore", x.restore(), 6);
        long[] behind = allOf(x);
        for (int i = 0; i < ahead.length; i++) {
            due("number " + i, behind[i], ahead[i]);
        }
        due("the next WAY", x.way(0, 0, 0, MAIN, ADD, 0), 4);
        due("the next OBJECT", x.make(PLAIN, 0, 0, 0, 0), 6);
        due("it has no SLOTS", x.objectOf(6, 5), 0);
        // THE IMAGE can have more than there is, too: twice over.
        ProtoOrders y = new ProtoOrders();
        y.image();
        y.make(PLAIN, 0, 0, 0, 0);
        due("of none", y.restore(), 0);
        due("there is none", y.status(0), 0);
        y.make(STILL, 0, 0, 0, 0);
        due("of one", y.image(), 1);
        due("one", y.restore(), 1);
        due("its KIND", y.objectOf(0, 0), STILL);
    }

    /** What is told of six OBJECTS, their first ten SLOTS, and four WAYS. */
    private static long[] allOf(ProtoOrders x) {
        long[] all = new long[6 * 22 + 4 * 6 + 5];
        int at = 0;
        for (int o = 0; o < 6; o++) {
            for (int what = 0; what < 9; what++) {
                all[at++] = x.objectOf(o, what);
            }
            for (int slot = 0; slot < 10; slot++) {
                all[at++] = x.slotOf(o, slot, 0) * 1000L + x.slotOf(o, slot, 1) * 100L + x.slotOf(o, slot, 2) * 10000L;
            }
            for (int i = 0; i < 3; i++) {
                all[at++] = x.order(o, i);
            }
        }
        for (int way = 0; way < 4; way++) {
            for (int what = 0; what < 6; what++) {
                all[at++] = x.wayOf(way, what);
            }
        }
        for (int what = 0; what < 5; what++) {
            all[at++] = x.status(what);
        }
        return all;
    }

    @Sentence(in = "Promise 35", says = "SHELVES with OBJECTS hold those of these numbers, or NOTHING: how many OBJECTS.")
    static void restoreShelves() {
        for (int objects = 0; objects <= 16; objects++) {
            ProtoOrders x = line(objects);
            x.image();
            for (int o = objects; o < 16; o++) {
                x.make(PLAIN, 0, 0, 0, 0);
            }
            int[] shown = {0, objects - 1, objects, 15, 14};
            for (int s = 0; s < 5; s++) {
                x.show(s, Math.min(Math.max(shown[s], 0), 15));
            }
            x.row(5, 0, 1);
            x.row(6, 3, 1);
            due("restore", x.restore(), objects);
            for (int s = 0; s < 5; s++) {
                int o = Math.min(Math.max(shown[s], 0), 15);
                due("SHELF with " + o + " of " + objects, x.holds(s), o < objects ? o : NONE);
            }
            due("a ROW of bytes", x.holds(5), 100);
            due("a ROW of longs", x.holds(6), 103);
            due("NOTHING", x.holds(7), NONE);
        }
        ProtoOrders y = line(2);
        y.image();
        y.make(PLAIN, 0, 0, 0, 0);
        y.show(0, 2);
        y.restore();
        y.make(PLAIN, 0, 0, 0, 0);
        due("NOTHING stays there", y.holds(0), NONE);
    }

    @Sentence(in = "Promise 35", says = "-6 there is none.")
    static void restoreRefused() {
        refuses(x -> {
            x.make(PLAIN, 0, 0, 0, 0);
            x.value(0, 0, 1);
            x.show(0, 0);
        }, -6, "restore");
        due("of an IMAGE of nothing", imageOfNothing().restore(), 0);
    }

    private static ProtoOrders imageOfNothing() {
        ProtoOrders x = new ProtoOrders();
        x.image();
        return x;
    }

    // ---- status

    @Sentence(in = "Promise 36", says = "0 OBJECTS, 1 WAYS, 2 SLOTS all OBJECTS have themselves, 3 METHODS of these, 4 SEED,"
        + " 5 WAYS that ran in the latest call(), 6 METHODS that ran in the latest send() or call() (WAYS too);")
    static void statusBounds() {
        ProtoOrders x = line(16);
        for (int i = 0; i < 256; i++) {
            if (i % 2 == 0) {
                x.value(i / 16, i % 16, 1);
            } else {
                x.method(i / 16, i % 16, ADD, 1);
            }
        }
        for (int i = 0; i < 32; i++) {
            x.way(0, 0, 0, i == 0 ? MAIN : AROUND, i == 0 ? SELF : NEXT, 1);
        }
        int[] ahead = {16, 32, 256, 128, 1, 0, 0};
        for (int what = 0; what < 7; what++) {
            due("ahead, " + what, x.status(what), ahead[what]);
        }
        x.call(0, 0, 0, 0);
        int[] behind = {16, 32, 256, 128, 1, 32, 33};
        for (int what = 0; what < 7; what++) {
            due("behind, " + what, x.status(what), behind[what]);
        }
        x.send(0, 1, 0);
        due("5 is of the call", x.status(5), 32);
        due("6 is of the send", x.status(6), 1);
        x.send(0, 0, 0);
        due("6 of a VALUE", x.status(6), 0);
        x.call(1, 0, 0, 0);
        due("5 of a call without WAYS", x.status(5), 0);
        due("6 of it", x.status(6), 0);
        x.remove(15, 15);
        x.remove(15, 14);
        due("SLOTS", x.status(2), 254);
        due("METHODS", x.status(3), 127);
    }

    @Sentence(in = "Promise 36", says = "11 to 17: REFUSALS -1 to -7.")
    static void statusOfRefusals() {
        refuses(TestBase::fullOfObjects, -1, "row", 8, 0, 0);
        refuses(TestBase::fullOfObjects, -2, "set", 4, 0, 0);
        refuses(TestBase::fullOfObjects, -3, "set", 6, 0, 0);
        refuses(TestBase::fullOfObjects, -4, "row", 0, 0, -1);
        refuses(TestBase::fullOfObjects, -5, "set", 0, 3, 0);
        refuses(TestBase::fullOfObjects, -6, "row", 0, 4, 0);
        refuses(TestBase::fullOfObjects, -7, "make", 0, 0, 0, 0, 0);
        ProtoOrders x = new ProtoOrders();
        for (int i = 0; i < 300; i++) {
            x.restore();
        }
        due("300 of them", x.status(16), 300);
    }

    @Sentence(in = "Promise 36", says = "NONE for another what.")
    static void statusOfNone() {
        ProtoOrders x = made(TestBase::common);
        for (int what : new int[] {-1, 7, 8, 9, 10, 18, 19, -11, LEAST, MOST}) {
            due("what " + what, x.status(what), NONE);
        }
        due("what 11", x.status(11), 0);
        due("what 16", x.status(16), 1);
        due("what 17", x.status(17), 0);
        refused("status", x, 0, 0, 0, 0, 0, 1, 0);
    }
}
