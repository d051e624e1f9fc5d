/** SHELVES and ROWS: promises 1 to 8 and their Terms. */
final class SentencesOfShelves extends TestBase {
    private static final String ROW = "-1; -4; -6 SORT; -7 n above 160.";
    private static final String SET_ = "-1; -2; -3; -5.";
    private static final String COPY = "-1; -2 also of two SORTS (when both hold something); -3 either; -4 n;"
        + " -5 i or j below 0, or an end that isn't there.";
    private static final String SAYS = "-1 SHELF, KIND; -2 also one of another KIND; -3.";

    private SentencesOfShelves() {
    }

    // ---- a new object

    @Sentence(in = "Promise 1", says = "No OBJECTS, no WAYS.")
    static void newObject() {
        ProtoOrders x = new ProtoOrders();
        for (int what = 0; what < 7; what++) {
            due("status " + what, x.status(what), what == 4 ? 1 : 0);
        }
        refused("new", x, 0, 0, 0, 0, 0, 0, 0);
        due("given", x.given(), 0);
        due("fault", x.fault(), NONE);
        due("trace", x.trace(0), NONE);
        due("object 0", x.objectOf(0, 0), -5);
        due("way 0", x.wayOf(0, 0), -5);
        due("the first object", x.make(PLAIN, 0, 0, 0, 0), 0);
        due("the first way", x.way(0, 0, 0, MAIN, ADD, 0), 0);
        due("no image", x.restore(), -6);
    }

    // ---- Terms

    @Sentence(in = "Terms 3", says = "SHELVES 0 to 7 hold NOTHING (at first), a ROW, or one of the OBJECTS.")
    static void shelvesAtFirst() {
        ProtoOrders x = diamond();
        for (int s = 0; s < 8; s++) {
            due("holds at first", x.holds(s), NONE);
            due("element at first", x.element(s, 0), 0);
            due("set at first", x.set(s, 0, 1), -3);
            due("says at first", x.says(s, PLAIN), -3);
        }
        for (int s = 0; s < 8; s++) {
            due("row", x.row(s, 2, 1), 1);
            due("holds a ROW", x.holds(s), 102);
            due("show", x.show(s, 3), 1);
            due("holds an OBJECT", x.holds(s), 3);
        }
        for (int s : NO_SHELVES) {
            due("holds of no SHELF", x.holds(s), NONE);
            due("element of no SHELF", x.element(s, 0), 0);
        }
    }

    @Sentence(in = "Terms 3", says = "A ROW has a SORT (0 bytes, 1 shorts, 2 ints, 3 longs) and 0 to 160 elements, 0 at first;")
    static void rowsAtFirst() {
        for (int n : new int[] {0, 1, 2, 159, 160}) {
            for (int sort = 0; sort < 4; sort++) {
                ProtoOrders x = new ProtoOrders();
                x.row(3, 3, 160);
                x.set(3, 0, -1);
                x.set(3, n - 1, -1);
                x.set(3, 159, -1);
                due("row of " + n, x.row(3, sort, n), 1);
                due("its SORT", x.holds(3), 100 + sort);
                for (int i = 0; i < n; i++) {
                    due("0 at first", x.element(3, i), 0);
                }
                due("beside it", x.element(3, n), 0);
                due("there is no such", x.set(3, n, 5), -5);
                due("nor one at -1", x.set(3, -1, 5), -5);
                due("the last one", x.set(3, n - 1, 5), n == 0 ? -5 : 1);
                due("holds it", x.element(3, n - 1), n == 0 ? 0 : 5);
            }
        }
    }

    @Sentence(in = "Terms 3", says = "what is put in keeps its lowest bits.")
    static void lowestBits() {
        for (int sort = 0; sort < 4; sort++) {
            ProtoOrders x = new ProtoOrders();
            x.row(0, sort, 160);
            int bits = 8 << sort;
            long most = (1L << bits - 1) - 1;
            long least = -most - 1;
            long[] kept = {0, 1, -1, most - 1, most, least, least + 1};
            for (long v : kept) {
                x.set(0, 80, v);
                due("kept whole in " + bits, x.element(0, 80), v);
            }
            x.set(0, 80, most + 1);
            due("one above the most", x.element(0, 80), least);
            x.set(0, 80, least - 1);
            due("one below the least", x.element(0, 80), most);
            x.set(0, 80, 2 * most + 1);
            due("all bits", x.element(0, 80), -1);
            x.set(0, 80, 2 * most + 2);
            due("no bits of these", x.element(0, 80), 0);
            x.set(0, 80, Long.MIN_VALUE);
            due("the uppermost bit", x.element(0, 80), bits == 64 ? Long.MIN_VALUE : 0);
            due("ahead of it", x.element(0, 79), 0);
            due("behind it", x.element(0, 81), 0);
        }
    }

    @Sentence(in = "Terms 3", says = "All is read as ints (of longs the lowest 32 bits).")
    static void readAsInts() {
        ProtoOrders x = line(1);
        x.method(0, 0, TIMES, 2);
        for (int sort = 0; sort < 4; sort++) {
            x.row(sort, sort, 2);
            x.set(sort, 0, -1);
            x.set(sort, 1, -2);
            due("signs are kept in " + sort, x.judge(sort, 0, 0, 1), NONE);
        }
        x.set(3, 0, (7L << 32) + 5);
        x.set(3, 1, (-9L << 32) + 10);
        due("the lowest 32 bits of longs", x.judge(3, 0, 0, 1), NONE);
        x.set(3, 0, 1L << 31);
        x.set(3, 1, 0);
        due("bit 31 is the sign", x.judge(3, 0, 0, 1), NONE);
        x.set(3, 1, 1L << 31);
        due("and not left away", x.judge(3, 0, 0, 1), 0);
        lay(x, 4, 3, "new 0");
        x.set(4, 4, '1' + (1L << 32));
        due("a letter in a long", x.read(4), 1);
        due("its KIND", x.objectOf(1, 0), FIRM);
        for (int sort = 1; sort < 4; sort++) {
            lay(x, 4, sort, "new 0");
            x.set(4, 4, '0' + 256);
            due("a letter and bit 8 in " + sort, x.read(4), -6);
            due("its FAULT", x.fault(), 4);
        }
        lay(x, 4, 0, "new 0");
        x.set(4, 4, '0' + 256);
        due("bytes have no bit 8", x.read(4), 1);
    }

    // ---- row

    @Sentence(in = "Promise 2", says = "SHELF s holds a new ROW: 1.")
    static void rowIsNew() {
        ProtoOrders x = line(1);
        x.show(1, 0);
        x.row(2, 0, 4);
        x.set(2, 3, 9);
        for (int s = 0; s < 3; s++) {
            due("row", x.row(s, 3, 4), 1);
            due("its SORT", x.holds(s), 103);
            due("its last element", x.element(s, 3), 0);
        }
        x.set(0, 0, 7);
        due("others are their own", x.element(1, 0) + x.element(2, 0), 0);
        due("SHELF 7", x.row(7, 0, 160), 1);
        x.set(7, 159, 1);
        due("its end", x.element(7, 159), 1);
        due("SHELF 6 has none", x.holds(6), NONE);
    }

    @Sentence(in = "Promise 2", says = ROW)
    static void rowNoShelf() {
        for (int s : NO_SHELVES) {
            refuses(TestBase::common, -1, "row", s, 0, 1);
            refuses(TestBase::common, -1, "row", s, 4, -1);
            refuses(TestBase::common, -1, "row", s, -1, 161);
        }
    }

    @Sentence(in = "Promise 2", says = ROW)
    static void rowBelow() {
        refuses(TestBase::common, -4, "row", 0, 0, -1);
        refuses(TestBase::common, -4, "row", 7, 4, -1);
        refuses(TestBase::common, -4, "row", 4, -1, LEAST);
    }

    @Sentence(in = "Promise 2", says = ROW)
    static void rowSort() {
        for (int sort : new int[] {-1, 4, LEAST, MOST}) {
            refuses(TestBase::common, -6, "row", 0, sort, 0);
            refuses(TestBase::common, -6, "row", 4, sort, 160);
            refuses(TestBase::common, -6, "row", 6, sort, 161);
        }
    }

    @Sentence(in = "Promise 2", says = "-7 n above 160.")
    static void rowRoom() {
        for (int sort = 0; sort < 4; sort++) {
            refuses(TestBase::common, -7, "row", sort, sort, 161);
        }
        refuses(TestBase::common, -7, "row", 4, 0, 161);
        refuses(TestBase::common, -7, "row", 6, 0, MOST);
        due("159", new ProtoOrders().row(0, 0, 159), 1);
        due("160", new ProtoOrders().row(0, 0, 160), 1);
    }

    // ---- set

    @Sentence(in = "Promise 3", says = "Element i of the ROW becomes v: 1.")
    static void setBounds() {
        ProtoOrders x = made(TestBase::common);
        for (int s = 0; s < 4; s++) {
            int last = 2 + s;
            due("set the first", x.set(s, 0, 99), 1);
            due("set the last", x.set(s, last, -99), 1);
            due("the first", x.element(s, 0), 99);
            due("the last", x.element(s, last), -99);
            due("the second", x.element(s, 1), 10 * s - 1);
        }
        due("a long", x.set(3, 1, Long.MAX_VALUE), 1);
        due("the long", x.element(3, 1), Long.MAX_VALUE);
    }

    @Sentence(in = "Promise 3", says = SET_)
    static void setNoShelf() {
        for (int s : NO_SHELVES) {
            refuses(TestBase::common, -1, "set", s, 0, 1);
            refuses(TestBase::common, -1, "set", s, -1, 1);
        }
    }

    @Sentence(in = "Promise 3", says = SET_)
    static void setOther() {
        refuses(TestBase::common, -2, "set", 4, 0, 1);
        refuses(TestBase::common, -2, "set", 5, -1, 1);
    }

    @Sentence(in = "Promise 3", says = SET_)
    static void setNothing() {
        refuses(TestBase::common, -3, "set", 6, 0, 1);
        refuses(TestBase::common, -3, "set", 6, -1, 1);
    }

    @Sentence(in = "Promise 3", says = SET_)
    static void setBeyond() {
        for (int s = 0; s < 4; s++) {
            refuses(TestBase::common, -5, "set", s, -1, 1);
            refuses(TestBase::common, -5, "set", s, 3 + s, 1);
        }
        refuses(TestBase::common, -5, "set", 7, 0, 1);
        refuses(TestBase::common, -5, "set", 0, LEAST, 1);
        refuses(TestBase::common, -5, "set", 0, MOST, 1);
        refuses(TestBase::common, -5, "set", 3, 160, 1);
    }

    // ---- copy

    @Sentence(in = "Promise 4", says = "Elements i, i + 1, .. of the ROW in SHELF p, n of them, come to elements"
        + " j, j + 1, .. of that in q (as they were ahead): 1.")
    static void copyBounds() {
        ProtoOrders x = new ProtoOrders();
        x.row(0, 1, 4);
        for (int i = 0; i < 4; i++) {
            x.set(0, i, i + 1);
        }
        x.row(1, 1, 6);
        due("all", x.copy(0, 1, 0, 2, 4), 1);
        elements("all of them to the end", x, 1, 0, 0, 1, 2, 3, 4);
        due("one, the last to the first", x.copy(0, 1, 3, 0, 1), 1);
        elements("one", x, 1, 4, 0, 1, 2, 3, 4);
        due("none, from the first", x.copy(0, 1, 0, 0, 0), 1);
        due("none, at both ends", x.copy(0, 1, 4, 6, 0), 1);
        elements("none", x, 1, 4, 0, 1, 2, 3, 4);
        due("forth in itself", x.copy(1, 1, 0, 1, 5), 1);
        elements("as they were ahead, forth", x, 1, 4, 4, 0, 1, 2, 3);
        due("back in itself", x.copy(1, 1, 1, 0, 5), 1);
        elements("as they were ahead, back", x, 1, 4, 0, 1, 2, 3, 3);
        due("on itself", x.copy(1, 1, 0, 0, 6), 1);
        elements("on itself", x, 1, 4, 0, 1, 2, 3, 3);
        elements("from where it came", x, 0, 1, 2, 3, 4);
        x.row(2, 1, 160);
        x.row(3, 1, 160);
        x.set(2, 159, 8);
        x.set(2, 0, 7);
        due("160", x.copy(2, 3, 0, 0, 160), 1);
        due("the first and the last", x.element(3, 0) * 10 + x.element(3, 159), 78);
        x.row(4, 3, 0);
        x.row(5, 3, 0);
        due("none of none", x.copy(4, 5, 0, 0, 0), 1);
    }

    private static void elements(String what, ProtoOrders x, int s, int... want) {
        for (int i = 0; i < want.length; i++) {
            due(what + " " + i, x.element(s, i), want[i]);
        }
        due(what + ", and no more", x.copy(s, s, want.length + 1, 0, 0), -5);
    }

    @Sentence(in = "Promise 4", says = COPY)
    static void copyNoShelf() {
        for (int s : NO_SHELVES) {
            refuses(TestBase::common, -1, "copy", s, 0, 0, 0, 1);
            refuses(TestBase::common, -1, "copy", 0, s, 0, 0, 1);
            refuses(TestBase::common, -1, "copy", s, 4, -1, 0, -1);
            refuses(TestBase::common, -1, "copy", 6, s, 0, -1, 1);
        }
    }

    @Sentence(in = "Promise 4", says = COPY)
    static void copyOther() {
        refuses(TestBase::common, -2, "copy", 4, 0, 0, 0, 1);
        refuses(TestBase::common, -2, "copy", 0, 5, 0, 0, 1);
        refuses(TestBase::common, -2, "copy", 4, 4, 0, 0, 1);
        refuses(TestBase::common, -2, "copy", 4, 6, 0, 0, -1);
        refuses(TestBase::common, -2, "copy", 6, 4, -1, 0, 1);
    }

    @Sentence(in = "Promise 4", says = "-2 also of two SORTS (when both hold something);")
    static void copyTwoSorts() {
        for (int p = 0; p < 4; p++) {
            for (int q = 0; q < 4; q++) {
                if (p == q) {
                    due("one SORT", made(TestBase::common).copy(p, q, 0, 0, 1), 1);
                } else {
                    refuses(TestBase::common, -2, "copy", p, q, 0, 0, 1);
                    refuses(TestBase::common, -2, "copy", p, q, -1, -1, -1);
                }
            }
        }
        due("two SHELVES of one SORT", made(TestBase::common).copy(2, 7, 0, 0, 0), 1);
    }

    @Sentence(in = "Promise 4", says = "-3 either;")
    static void copyNothing() {
        for (int s = 0; s < 4; s++) {
            refuses(TestBase::common, -3, "copy", 6, s, 0, 0, 1);
            refuses(TestBase::common, -3, "copy", s, 6, 0, 0, -1);
        }
        refuses(TestBase::common, -3, "copy", 6, 6, -1, -1, -1);
    }

    @Sentence(in = "Promise 4", says = "-4 n;")
    static void copyBelow() {
        refuses(TestBase::common, -4, "copy", 2, 7, 0, 0, -1);
        refuses(TestBase::common, -4, "copy", 0, 0, 0, 0, LEAST);
        refuses(TestBase::common, -4, "copy", 0, 0, -1, 4, -1);
    }

    @Sentence(in = "Promise 4", says = "-5 i or j below 0, or an end that isn't there.")
    static void copyBeyond() {
        // SHELF 2 has 5 elements, SHELF 7 none.
        refuses(TestBase::common, -5, "copy", 2, 2, -1, 0, 1);
        refuses(TestBase::common, -5, "copy", 2, 2, 0, -1, 1);
        refuses(TestBase::common, -5, "copy", 2, 2, -1, 0, 0);
        refuses(TestBase::common, -5, "copy", 2, 2, 0, -1, 0);
        refuses(TestBase::common, -5, "copy", 2, 2, LEAST, 0, 1);
        refuses(TestBase::common, -5, "copy", 2, 2, 0, LEAST, 1);
        due("from 1, four", made(TestBase::common).copy(2, 2, 1, 0, 4), 1);
        refuses(TestBase::common, -5, "copy", 2, 2, 2, 0, 4);
        due("to 1, four", made(TestBase::common).copy(2, 2, 0, 1, 4), 1);
        refuses(TestBase::common, -5, "copy", 2, 2, 0, 2, 4);
        refuses(TestBase::common, -5, "copy", 2, 2, 0, 0, 6);
        refuses(TestBase::common, -5, "copy", 2, 7, 0, 0, 1);
        refuses(TestBase::common, -5, "copy", 7, 2, 0, 0, 1);
        due("none from the end", made(TestBase::common).copy(2, 7, 5, 0, 0), 1);
        refuses(TestBase::common, -5, "copy", 2, 7, 6, 0, 0);
        due("none to the end", made(TestBase::common).copy(7, 2, 0, 5, 0), 1);
        refuses(TestBase::common, -5, "copy", 7, 2, 0, 6, 0);
        refuses(TestBase::common, -5, "copy", 2, 2, 1, 1, MOST);
        refuses(TestBase::common, -5, "copy", 2, 2, MOST, 0, 1);
        refuses(TestBase::common, -5, "copy", 2, 2, 0, MOST, 1);
        refuses(TestBase::common, -5, "copy", 2, 2, MOST, MOST, MOST);
    }

    // ---- element

    @Sentence(in = "Promise 5", says = "Element i of the ROW; 0 if there is none (nothing is refused).")
    static void elementBounds() {
        ProtoOrders x = made(TestBase::common);
        for (int s = 0; s < 4; s++) {
            due("the first", x.element(s, 0), 10 * s);
            due("the last", x.element(s, 2 + s), 10 * s - 2 - s);
            for (int i : new int[] {-1, 3 + s, 160, LEAST, MOST}) {
                due("element " + i, x.element(s, i), 0);
            }
        }
        // Behind a longer ROW its elements are gone.
        x.row(3, 3, 2);
        due("beyond a shorter ROW", x.element(3, 2), 0);
        for (int s : new int[] {-1, 8, LEAST, MOST, 4, 6, 7}) {
            due("element of SHELF " + s, x.element(s, 0), 0);
            due("element -1 of SHELF " + s, x.element(s, -1), 0);
        }
        x.row(1, 1, 1);
        x.set(1, 0, 5);
        x.show(1, 0);
        due("element of an OBJECT", x.element(1, 0), 0);
        x.show(1, NONE);
        due("element of NOTHING", x.element(1, 0), 0);
        refused("element", x, 0, 0, 0, 0, 0, 1, 0);
    }

    // ---- show, holds

    @Sentence(in = "Promise 6", says = "SHELF s holds one of the OBJECTS, or NOTHING (o NONE): 1, 0.")
    static void showBounds() {
        ProtoOrders x = made(TestBase::fullOfObjects);
        for (int o : new int[] {0, 1, 14, 15}) {
            due("show", x.show(0, o), 1);
            due("on SHELF 0", x.holds(0), o);
            due("show on 7", x.show(7, o), 1);
            due("on SHELF 7", x.holds(7), o);
        }
        due("show NONE on an OBJECT", x.show(0, NONE), 0);
        due("show NONE on NOTHING", x.show(0, NONE), 0);
        due("NOTHING on SHELF 0", x.holds(0), NONE);
        due("show NONE on a ROW", x.show(3, NONE), 0);
        due("NOTHING on SHELF 3", x.holds(3), NONE);
        due("no ROW there", x.set(3, 0, 1), -3);
        due("show on a ROW", x.show(2, 15), 1);
        due("no ROW there either", x.set(2, 0, 1), -2);
    }

    @Sentence(in = "Promise 6", says = "-1.")
    static void showNobody() {
        for (int s : NO_SHELVES) {
            refuses(TestBase::common, -1, "show", s, 0);
            refuses(TestBase::common, -1, "show", s, NONE);
        }
        for (int o : new int[] {-2, 6, LEAST, MOST, 100}) {
            refuses(TestBase::common, -1, "show", 0, o);
            refuses(TestBase::common, -1, "show", 4, o);
        }
        refuses(TestBase::fullOfObjects, -1, "show", 0, 16);
        due("the last OBJECT", made(TestBase::common).show(0, 5), 1);
    }

    @Sentence(in = "Promise 7", says = "What SHELF s holds: NONE NOTHING, or no such SHELF; an OBJECT's number;"
        + " 100 and the SORT of a ROW.")
    static void holdsBounds() {
        ProtoOrders x = made(TestBase::fullOfObjects);
        int[] want = {100, 101, 102, 103, 1, 3, NONE, 102};
        for (int s = 0; s < 8; s++) {
            due("holds " + s, x.holds(s), want[s]);
        }
        for (int s : NO_SHELVES) {
            due("holds " + s, x.holds(s), NONE);
        }
        x.show(0, 0);
        x.show(7, 15);
        due("holds OBJECT 0", x.holds(0), 0);
        due("holds OBJECT 15", x.holds(7), 15);
        refused("holds", x, 0, 0, 0, 0, 0, 1, 0);
    }

    // ---- says

    @Sentence(in = "Terms 1", says = "KINDS: 0 PLAIN; 1 FIRM (no SET by a send changes it), 2 LAST (no OBJECT may have it"
        + " as PARENT), each under PLAIN; 3 STILL, under FIRM (its SLOTS can't be told anew).")
    static void kindsUnderKinds() {
        // OBJECT 0 is PLAIN, 1 FIRM, 2 LAST, 3 STILL; what each says as PLAIN, FIRM, LAST, STILL.
        int[][] want = {{1, -2, -2, -2}, {2, 3, -2, -2}, {3, -2, 2, -2}, {3, 3, -2, 16 + 2 + 1}};
        ProtoOrders x = new ProtoOrders();
        reading(x, "new 0 a=1 b=2;new 1<0 a=1 b=2 c=3;new 2<1,0 a=1;new 3<1,0 a=1 b=2 e=3");
        for (int o = 0; o < 4; o++) {
            due("its KIND", x.objectOf(o, 0), o);
            x.show(0, o);
            for (int kind = 0; kind < 4; kind++) {
                due("OBJECT " + o + " as " + kind, x.says(0, kind), want[o][kind]);
            }
        }
        refused("says", x, 0, 8, 0, 0, 0, 0, 0);
    }

    @Sentence(in = "Promise 8", says = "PLAIN how many are in its ORDER; FIRM how many SLOTS it has itself; LAST how many"
        + " PARENTS; STILL which SLOTS it has itself (bits).")
    static void saysBounds() {
        ProtoOrders x = line(15);
        x.show(0, 0);
        due("one in its ORDER", x.says(0, PLAIN), 1);
        x.make(FIRM, 1, 14, 0, 0);
        x.show(7, 15);
        due("16 in its ORDER", x.says(7, PLAIN), 16);
        for (int slot = 0; slot < 16; slot++) {
            due("FIRM has SLOTS", x.says(7, FIRM), slot);
            x.value(15, slot, 0);
        }
        due("FIRM has 16 SLOTS", x.says(7, FIRM), 16);
        ProtoOrders y = apart(3);
        for (int parents = 0; parents < 4; parents++) {
            y.make(LAST, parents, 0, 1, 2);
            y.show(1, 3 + parents);
            due("LAST has PARENTS", y.says(1, LAST), parents);
        }
        reading(y, "new 3;new 3 a=1;new 3 p=1;new 3 a=1 b=1 c=1 d=1 e=1 f=1 g=1 h=1 i=1 j=1 k=1 l=1 m=1 n=1 o=1 p=1");
        int[] bits = {0, 1, 1 << 15, 65535};
        for (int i = 0; i < 4; i++) {
            y.show(1, 7 + i);
            due("STILL has SLOTS", y.says(1, STILL), bits[i]);
        }
    }

    @Sentence(in = "Promise 8", says = "-1 SHELF, KIND;")
    static void saysNobody() {
        for (int s : NO_SHELVES) {
            refuses(TestBase::common, -1, "says", s, PLAIN);
            refuses(TestBase::common, -1, "says", s, 4);
        }
        for (int kind : new int[] {-1, 4, LEAST, MOST}) {
            for (int s : new int[] {0, 4, 5, 6}) {
                refuses(TestBase::common, -1, "says", s, kind);
            }
        }
    }

    @Sentence(in = "Promise 8", says = "-2 also one of another KIND;")
    static void saysOther() {
        for (int kind = 0; kind < 4; kind++) {
            refuses(TestBase::common, -2, "says", 0, kind);
            refuses(TestBase::common, -2, "says", 7, kind);
        }
        refuses(TestBase::common, -2, "says", 4, LAST);
        refuses(TestBase::common, -2, "says", 4, STILL);
        refuses(TestBase::common, -2, "says", 5, LAST);
        due("STILL is under FIRM", made(TestBase::common).says(5, FIRM), 2);
    }

    @Sentence(in = "Promise 8", says = SAYS)
    static void saysNothing() {
        for (int kind = 0; kind < 4; kind++) {
            refuses(TestBase::common, -3, "says", 6, kind);
        }
    }

    // ---- the REFUSALS themselves

    @Sentence(in = "REFUSALS", says = "(the call answers the number; nothing changes but how many there were; the first"
        + " that fits, in this order)")
    static void refusalsInOrder() {
        // Each of these fits all the later ones of its promise too.
        refuses(TestBase::fullOfObjects, -1, "copy", -1, 4, -1, -1, -1);
        refuses(TestBase::fullOfObjects, -2, "copy", 4, 6, -1, -1, -1);
        refuses(TestBase::fullOfObjects, -3, "copy", 6, 0, -1, -1, -1);
        refuses(TestBase::fullOfObjects, -4, "copy", 0, 0, -1, -1, -1);
        refuses(TestBase::fullOfObjects, -5, "copy", 0, 0, -1, -1, 200);
        refuses(TestBase::fullOfObjects, -6, "row", 0, -1, 161);
        refuses(TestBase::fullOfObjects, -7, "row", 0, 0, 161);
    }

    @Sentence(in = "REFUSALS", says = "-1 NOBODY: no such SHELF, OBJECT, SLOT, KIND, GENERIC.")
    static void nobody() {
        for (int o : NO_OBJECTS) {
            refuses(TestBase::common, -1, "send", o, 0, 0);
        }
        for (int none : new int[] {-1, 16, LEAST, MOST}) {
            refuses(TestBase::common, -1, "send", 0, none, 0);
        }
        for (int none : new int[] {-1, 8, LEAST, MOST}) {
            refuses(TestBase::common, -1, "row", none, 0, 0);
            refuses(TestBase::common, -1, "tie", none, 0, 0);
        }
        for (int none : new int[] {-1, 4, LEAST, MOST}) {
            refuses(TestBase::common, -1, "make", none, 0, 0, 0, 0);
        }
    }

    @Sentence(in = "REFUSALS", says = "-2 OTHER: a SHELF that holds an OBJECT where a ROW is wanted, or the other way"
        + " about, ROWS of two SORTS, an OBJECT that isn't of the KIND wanted, or one under it.")
    static void other() {
        refuses(TestBase::common, -2, "read", 4);
        refuses(TestBase::common, -2, "says", 0, PLAIN);
        refuses(TestBase::common, -2, "copy", 0, 1, 0, 0, 1);
        refuses(TestBase::common, -2, "says", 4, STILL);
    }

    @Sentence(in = "REFUSALS", says = "-3 NOTHING: a SHELF that holds NOTHING. -4 BELOW: a size below 0. -5 BEYOND: an"
        + " element that isn't there; nothing such to be told of.")
    static void nothingBelowBeyond() {
        refuses(TestBase::common, -3, "read", 6);
        refuses(TestBase::common, -3, "says", 6, PLAIN);
        refuses(TestBase::common, -4, "row", 6, 0, -1);
        due("a size of 0", made(TestBase::common).row(6, 0, 0), 1);
        refuses(TestBase::common, -5, "set", 0, 3, 0);
        refuses(TestBase::common, -5, "objectOf", 0, 9);
        refuses(TestBase::common, -5, "wayOf", 4, 0);
    }

    @Sentence(in = "REFUSALS", says = "-6 WRONG: a number that may not be, a FAULT, what can't be as things stand."
        + " -7 ROOM: more than may be.")
    static void wrongRoom() {
        refuses(TestBase::common, -6, "row", 0, 4, 0);
        refuses(TestBase::common, -6, "read", 7);
        refuses(TestBase::common, -6, "value", 3, 0, 0);
        refuses(TestBase::common, -7, "row", 0, 0, 161);
        refuses(TestBase::fullOfObjects, -7, "make", 0, 0, 0, 0, 0);
        refuses(TestBase::fullOfWays, -7, "way", 0, 0, 0, 0, 0, 0);
    }
}
