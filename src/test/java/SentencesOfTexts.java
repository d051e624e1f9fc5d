import java.util.Set;

/** TEXTS and FAULTS: promises 9 and 10 and their Terms. */
final class SentencesOfTexts extends TestBase {
    private static final String DIGITS = "0123456789";
    private static final String LETTERS = "abcdefghijklmnop";

    private SentencesOfTexts() {
    }

    /**
     * Ten OBJECTS are there. Behind what is ahead (no FAULT in it but its end) just these letters
     * can stand: any other one is the FAULT. Behind a digit that may end a TEXT it does, behind
     * another letter it ends too early.
     */
    private static void canStand(String ahead, String letters, boolean digitsEnd) {
        for (int c = -3; c < 300; c++) {
            boolean can = c >= 0 && letters.indexOf(c) >= 0;
            boolean ends = digitsEnd && c >= '0' && c <= '9';
            int want = !can ? ahead.length() : ends ? NONE : ahead.length() + 1;
            ProtoOrders x = apart(10);
            lay(x, 0, 2, ahead + "?");
            x.set(0, ahead.length(), c);
            due("read [" + ahead + "] and " + c, x.read(0), want == NONE ? items(ahead) : -6);
            due("fault of [" + ahead + "] and " + c, x.fault(), want);
        }
    }

    private static int items(String text) {
        return text.split(";", -1).length;
    }

    // ---- how a TEXT goes on

    @Sentence(in = "Terms 1", says = "new K, then, if it has PARENTS, < N, maybe , N, maybe , N;")
    static void lettersOfAnItem() {
        canStand("", "n", false);
        canStand("n", "e", false);
        canStand("ne", "w", false);
        canStand("new", " ", false);
        canStand("new ", "0123", true);
        canStand("new 0", "<; ", false);
        canStand("new 3", "<; ", false);
        canStand("new 0<", DIGITS, true);
        canStand("new 0<0", ",; " + DIGITS, true);
        canStand("new 0<00", ",; ", false);
        canStand("new 0<00,", DIGITS.substring(1), true);
        canStand("new 0<3,02", ",; ", false);
        canStand("new 0<3,02,01", "; ", false);
        canStand("new 0;", "n", false);
        canStand("new 0;new 1<0", ",; " + DIGITS, true);
    }

    @Sentence(in = "Terms 1", says = "< N, maybe , N, maybe , N;")
    static void oneToThreeParents() {
        String ahead = "new 0;new 0;new 0;new 0;";
        fault(ahead + "new 0", NONE);
        fault(ahead + "new 0<", 30);
        fault(ahead + "new 0<3", NONE);
        fault(ahead + "new 0<3,", 32);
        fault(ahead + "new 0<3,2", NONE);
        fault(ahead + "new 0<3,2,", 34);
        fault(ahead + "new 0<3,2,1", NONE);
        fault(ahead + "new 0<3,2,1,", 35);
        fault(ahead + "new 0<3,2,1,0", 35);
        fault(ahead + "new 0<03,02,01,00", 38);
        fault(ahead + "new 0<,3", 30);
        fault(ahead + "new 0<3,,2", 32);
        fault(ahead + "new 0<3<2", 31);
        fault(ahead + "new 0,3", 29);
        ProtoOrders x = new ProtoOrders();
        reading(x, ahead + "new 0<3,02,0");
        due("its PARENTS", x.objectOf(4, 1), 3);
        due("the first", x.objectOf(4, 2), 3);
        due("the second", x.objectOf(4, 3), 2);
        due("the third", x.objectOf(4, 4), 0);
        orders("of three", x, 4, 4, 3, 2, 0);
    }

    @Sentence(in = "Terms 1", says = "ITEM, then any number of times ; and ITEM:")
    static void anyNumberOfItems() {
        StringBuilder text = new StringBuilder("new 0");
        for (int items = 1; items <= 16; items++) {
            ProtoOrders x = new ProtoOrders();
            due("ITEMS", reading(x, text.toString()), items);
            due("their FAULT", x.fault(), NONE);
            due("OBJECTS", x.status(0), items);
            text.append(";new 0");
        }
        // The 17th finds no room.
        fault(text.toString(), 96);
        fault("", 0);
        fault(";", 0);
        fault("new 0;", 6);
        fault(";new 0", 0);
        fault("new 0;;new 0", 6);
        fault("new 0,new 0", 5);
    }

    @Sentence(in = "Terms 1", says = "then any number of SLOTS: one blank, its letter, and = V, or : F . V (a METHOD:"
        + " FUNCTION F, k V).")
    static void lettersOfASlot() {
        canStand("new 0 ", LETTERS, false);
        canStand("new 0 a", "=:", false);
        canStand("new 0 p", "=:", false);
        canStand("new 0 a=", "-" + DIGITS, true);
        canStand("new 0 a:", DIGITS, false);
        canStand("new 0 a:0", ".", false);
        canStand("new 0 a:9", ".", false);
        canStand("new 0 a:9.", "-" + DIGITS, true);
        canStand("new 0;new 0<0 ", LETTERS, false);
    }

    @Sentence(in = "Terms 1", says = "any number of SLOTS:")
    static void anyNumberOfSlots() {
        StringBuilder text = new StringBuilder("new 0");
        for (int slots = 0; slots <= 16; slots++) {
            ProtoOrders x = new ProtoOrders();
            due("ITEMS", reading(x, text.toString()), 1);
            due("SLOTS", x.objectOf(0, 5), (1 << slots) - 1);
            text.append(' ').append((char) ('a' + slots)).append(slots % 2 == 0 ? "=7" : ":8.7");
        }
        fault(text.toString(), text.length() - 3);
        // More SLOTS than names, and as many elements as a ROW has.
        text.setLength(0);
        text.append("new 0");
        for (int i = 0; i < 36; i++) {
            text.append(" a=").append(i % 10);
        }
        text.append(" b:9.-9 c=4");
        due("elements", text.length(), 160);
        ProtoOrders x = new ProtoOrders();
        due("ITEMS", reading(x, text.toString()), 1);
        due("SLOTS", x.objectOf(0, 5), 7);
        due("the last of a", x.slotOf(0, 0, 2), 5);
        due("the last of all", x.slotOf(0, 2, 2), 4);
        x.set(7, 159, 'x');
        due("the last element wrong", x.read(7), -6);
        due("its FAULT", x.fault(), 159);
    }

    @Sentence(in = "Terms 1", says = "SLOTS by names 0 to 15 (letters a to p).")
    static void slotNames() {
        for (int slot = 0; slot < 16; slot++) {
            ProtoOrders x = new ProtoOrders();
            due("read", reading(x, "new 0 " + LETTERS.charAt(slot) + "=9"), 1);
            due("SLOT " + slot, x.objectOf(0, 5), 1 << slot);
            due("its VALUE", x.slotOf(0, slot, 2), 9);
        }
        fault("new 0 q=9", 6);
        fault("new 0 `=9", 6);
        fault("new 0 A=9", 6);
        ProtoOrders y = line(1);
        due("value 15", y.value(0, 15, 1), 0);
        due("value 0", y.value(0, 0, 1), 0);
        due("value 16", y.value(0, 16, 1), -1);
        due("value -1", y.value(0, -1, 1), -1);
    }

    @Sentence(in = "Terms 1", says = "K (KIND) and F one digit, N 1 or 2 digits,")
    static void howManyDigits() {
        for (int kind = 0; kind < 4; kind++) {
            fault("new " + kind, NONE);
            fault("new " + kind + "0", 5);
        }
        fault("new 00", 5);
        fault("new 4", 4);
        fault("new 9", 4);
        fault("new -1", 4);
        fault("new /", 4);
        fault("new :", 4);
        for (int function = 0; function < 10; function++) {
            ProtoOrders x = new ProtoOrders();
            fault(x, "new 0 a:" + function + ".1", NONE);
            due("FUNCTION", x.slotOf(0, 0, 1), function);
            fault("new 0 a:" + function + "0.1", 9);
        }
        fault("new 0 a:/.1", 8);
        fault("new 0 a::.1", 8);
        fault("new 0 a:-1.1", 8);
        fault("new 0 a:.1", 8);
        fault("new 0;new 0<0", NONE);
        fault("new 0;new 0<00", NONE);
        fault("new 0;new 0<000", 14);
        fault("new 0;new 0<0000", 14);
    }

    @Sentence(in = "Terms 1", says = "V maybe a -, then 1 or 2 digits (as many as stand there up to 2);")
    static void digitsOfV() {
        for (String end : new String[] {"=", ":9.", ":0."}) {
            String slot = "new 0 a" + end;
            for (int v : new int[] {0, 1, 9, 10, 11, 98, 99, -1, -9, -10, -98, -99}) {
                ProtoOrders x = new ProtoOrders();
                fault(x, slot + v, NONE);
                due("V", x.slotOf(0, 0, 2), v);
            }
            String[] zeros = {"00", "-0", "-00", "01", "-01", "09", "-09"};
            int[] want = {0, 0, 0, 1, -1, 9, -9};
            for (int i = 0; i < zeros.length; i++) {
                ProtoOrders x = new ProtoOrders();
                fault(x, slot + zeros[i], NONE);
                due("V of " + zeros[i], x.slotOf(0, 0, 2), want[i]);
            }
            fault(slot, slot.length());
            fault(slot + "-", slot.length() + 1);
            fault(slot + "100", slot.length() + 2);
            fault(slot + "-100", slot.length() + 3);
            fault(slot + "--1", slot.length() + 1);
            fault(slot + "+1", slot.length());
            fault(slot + "1-", slot.length() + 1);
        }
        canStand("new 0 a=1", DIGITS + "; ", true);
        canStand("new 0 a=-1", DIGITS + "; ", true);
        canStand("new 0 a=-", DIGITS, true);
        canStand("new 0 a=12", "; ", false);
        canStand("new 0 a=-12", "; ", false);
        canStand("new 0 a:9.-", DIGITS, true);
        canStand("new 0 a:9.1", DIGITS + "; ", true);
        canStand("new 0 a:9.-12", "; ", false);
    }

    @Sentence(in = "Terms 1", says = "one blank ahead of K, none elsewhere;")
    static void blanks() {
        String whole = "new 0 a=5 b:1.-2;new 0<0 a=1";
        fault(whole, NONE);
        // A blank put in ahead of each element, and at the end.
        int[] want = {0, 1, 2, 4, 4, 6, 6, 7, 8, 10, 10, 11, 12, 13, 14, 15, 17, 17, 18, 19, 21, 21, 23, 23, 25, 25,
            26, 27, 29};
        for (int at = 0; at <= whole.length(); at++) {
            fault(whole.substring(0, at) + " " + whole.substring(at), want[at]);
        }
        fault("new0", 3);
        fault("new  0", 4);
        fault("new\t0", 3);
    }

    @Sentence(in = "Terms 1", says = "the later of two SLOTS of one name holds.")
    static void laterSlotHolds() {
        ProtoOrders x = new ProtoOrders();
        fault(x, "new 0 a=1 a=2", NONE);
        due("a VALUE behind a VALUE", x.slotOf(0, 0, 2), 2);
        due("one SLOT", x.status(2), 1);
        fault(x, "new 0 a=1 b=5 a:3.2", NONE);
        due("a METHOD behind a VALUE", x.slotOf(1, 0, 0) * 100 + x.slotOf(1, 0, 1) * 10 + x.slotOf(1, 0, 2), 132);
        fault(x, "new 0 a:3.2 a=1", NONE);
        due("a VALUE behind a METHOD", x.slotOf(2, 0, 0) * 100 + x.slotOf(2, 0, 1) * 10 + x.slotOf(2, 0, 2), 1);
        fault(x, "new 3 p:3.2 p:4.-1 p:5.0", NONE);
        due("the third METHOD", x.slotOf(3, 15, 1) * 10 + x.slotOf(3, 15, 2), 50);
    }

    @Sentence(in = "Terms 1", says = "Each ITEM becomes a new OBJECT (an N may be one made ahead in the TEXT), or nothing of"
        + " the TEXT holds.")
    static void allOrNothing() {
        ProtoOrders x = line(2);
        due("read", reading(x, "new 1<1 a=4;new 0<2;new 3<3,0 b=1"), 3);
        orders("of the last", x, 4, 4, 3, 2, 1, 0);
        due("its SLOT", x.slotOf(4, 1, 2), 1);
        refuses(y -> {
            TestBase.common(y);
            lay(y, 6, 1, "new 0 a=1 b:4.2;new 1<6;new 2<7,0x");
            // So that the FAULT is the same ahead and behind.
            y.read(6);
        }, -6, "read", 6);
        fault(x, "new 0 a=1 c:0.1;new 0<5;x", 24);
        due("the next OBJECT", x.make(PLAIN, 0, 0, 0, 0), 5);
        due("has none of its SLOTS", x.objectOf(5, 5), 0);
        due("none of its FAMILY", x.objectOf(5, 8), 32);
        fault(x, "new 0<6", 6);
        fault(x, "new 0<5", NONE);
    }

    // ---- read

    @Sentence(in = "Promise 9", says = "A TEXT by the ROW in SHELF s: how many ITEMS.")
    static void readFromAnyRow() {
        for (int s : new int[] {0, 7}) {
            for (int sort = 0; sort < 4; sort++) {
                ProtoOrders x = line(1);
                lay(x, s, sort, "new 0;new 1<0");
                due("read", x.read(s), 2);
                due("again", x.read(s), 2);
                due("OBJECTS", x.status(0), 5);
                due("the ROW stays", x.holds(s), 100 + sort);
                due("its elements stay", x.element(s, 10), '1');
            }
        }
    }

    @Sentence(in = "Promise 9", says = "-1; -2; -3; -6 a FAULT.")
    static void readNoRow() {
        for (int s : new int[] {-1, 8, LEAST, MOST}) {
            refuses(TestBase::common, -1, "read", s);
        }
        refuses(TestBase::common, -2, "read", 4);
        refuses(TestBase::common, -2, "read", 5);
        refuses(TestBase::common, -3, "read", 6);
    }

    @Sentence(in = "Promise 9", says = "-6 a FAULT.")
    static void readFault() {
        // The FAULT is 0 there already.
        refuses(TestBase::common, -6, "read", 7);
        refuses(TestBase::common, -6, "read", 0);
        refuses(TestBase::fullOfObjects, -6, "read", 7);
    }

    // ---- fault

    @Sentence(in = "Promise 10", says = "The FAULT of the latest read() that came to a ROW; NONE: there was none, or none"
        + " yet.")
    static void latestFault() {
        ProtoOrders x = line(1);
        due("none yet", x.fault(), NONE);
        x.read(7);
        due("came to NOTHING", x.fault(), NONE);
        fault(x, "", 0);
        x.row(0, 0, 160);
        x.show(1, 0);
        x.read(-1);
        x.read(8);
        x.read(1);
        x.read(2);
        due("as it was", x.fault(), 0);
        fault(x, "new ", 4);
        fault(x, "new 0", NONE);
        fault(x, "new 0x", 5);
        x.image();
        x.restore();
        due("behind restore", x.fault(), 5);
        fault(x, "new 1", NONE);
        x.read(1);
        due("none, as it was", x.fault(), NONE);
    }

    @Sentence(in = "Terms 1", says = "The FAULT: the first place at which an element can't stand as such texts go on (the"
        + " number of elements, if it ends too early);")
    static void endsTooEarly() {
        String whole = "new 0 a=-12 p:9.34;new 3<0;new 1<1,00 b=5";
        Set<Integer> ends = Set.of(5, 10, 11, 17, 18, 24, 26, 32, 34, 36, 37, 41);
        for (int n = 0; n <= whole.length(); n++) {
            fault(whole.substring(0, n), ends.contains(n) ? NONE : n);
            // What an earlier TEXT had there is no more.
            ProtoOrders x = new ProtoOrders();
            reading(x, whole);
            fault(x, whole.substring(0, n), ends.contains(n) ? NONE : n);
        }
        for (int at = 0; at < whole.length(); at++) {
            fault(whole.substring(0, at) + "\u0001" + whole.substring(at + 1), at);
            fault(whole.substring(0, at) + "\u0001" + whole.substring(at), at);
        }
        fault(whole + "\u0001", whole.length());
        String[] open = {";", ";n", ";ne", ";new", ";new ", ";new 0<", ";new 0<0,", " ", " a", " a=", " a=-", " a:",
            " a:9", " a:9.", " a:9.-"};
        for (String end : open) {
            fault(endingAt160(end), 160);
        }
        fault(endingAt160(" a=1"), NONE);
    }

    /** A TEXT of as many elements as a ROW has, the last of them these. */
    private static String endingAt160(String end) {
        StringBuilder text = new StringBuilder("new 0");
        int left = 160 - text.length() - end.length();
        for (int i = 0; i < left / 4; i++) {
            text.append(i < left % 4 ? " b=10" : " b=1");
        }
        return text.append(end).toString();
    }

    @Sentence(in = "Terms 1", says = "of an N that is no such OBJECT, is LAST, or was there, its first digit;")
    static void faultOfN() {
        // No such OBJECT: the next one, itself, one far off.
        fault("new 0<0", 6);
        fault("new 0<1", 6);
        fault("new 0;new 0<1", 12);
        fault("new 0;new 0<01", 12);
        fault("new 0;new 0<2;new 0", 12);
        fault("new 0;new 0<99", 12);
        fault("new 0;new 0<0,1", 14);
        fault("new 0;new 0<0,01,x", 14);
        for (int n = 9; n < 16; n++) {
            ProtoOrders x = apart(n);
            fault(x, "new 0<" + n, 6);
            fault(x, "new 0<" + n + "x", 6);
            fault(x, "new 0<" + (n - 1), NONE);
            fault(x, "new 0<" + n, n == 15 ? 0 : NONE);
        }
        // 16 are there: N 15 is one of them, N 16 none.
        fault(apart(16), "new 0<15", 0);
        fault(apart(16), "new 0<16", 6);
        fault(apart(16), "new 0<15,16", 9);
        // LAST.
        fault("new 2;new 0<0", 12);
        fault("new 0;new 2;new 0<0,1", 20);
        fault("new 0;new 2;new 0<0,01;", 20);
        fault("new 1;new 0<0", NONE);
        fault("new 3;new 0<0", NONE);
        // Was there.
        fault("new 0;new 0<0,0", 14);
        fault("new 0;new 0<0,00", 14);
        fault("new 0;new 0<00,0,", 15);
        fault("new 0;new 0;new 0<0,1,0", 22);
        fault("new 0;new 0;new 0<1,0,0", 22);
    }

    @Sentence(in = "Terms 1", says = "of a K or F that may not be its place;")
    static void faultOfKAndF() {
        fault("new 3", NONE);
        fault("new 4", 4);
        fault("new 4<x", 4);
        fault("new 0;new 9", 10);
        fault("new a", 4);
        fault("new 0 a:a.1", 8);
        fault("new 0 a:9.1", NONE);
        fault(apart(16), "new 4", 4);
    }

    @Sentence(in = "Terms 1", says = "of an ITEM that there is no room for, or that has no ORDER, its n,")
    static void faultOfAnItem() {
        fault(apart(15), "new 0", NONE);
        fault(apart(16), "new 0", 0);
        fault(apart(15), "new 0;new 0", 6);
        fault(apart(14), "new 0;new 0", NONE);
        fault(apart(14), "new 0 a=1;new 0 b=1;new 0 c=1", 20);
        fault(apart(16), "new 0<1", 0);
        fault(apart(16), "new 0 a=1", 0);
        fault("new 0;new 0<0;new 0<1,0", NONE);
        fault("new 0;new 0<0;new 0<0,1", 14);
        fault("new 0;new 0;new 0<1,0;new 0<0,2", 22);
        fault(line(3), "new 0<1,2", 0);
        fault(line(3), "new 0<2,1", NONE);
        fault(line(3), "new 0<2,0,1", 0);
        fault(line(3), "new 0<2,1,0", NONE);
        fault(line(3), "new 0;new 0<0,1,2", 6);
    }

    @Sentence(in = "Terms 1", says = "judged when its K and all its PARENTS have been read and no , stands next")
    static void judgedBehindParents() {
        // There is no ORDER of 0, 1 in a line; of 0, 1, 2 neither.
        String[] behind = {"", " ", " a", " a=1", ";", ";new 0", "x", "<", "0x"};
        for (String end : behind) {
            fault(line(3), "new 0<0,01" + end, 0);
            fault(line(3), "new 0<0,1,02" + end, 0);
            fault(apart(16), "new 0<00" + end, 0);
        }
        fault(line(3), "new 0<0,1,", 10);
        fault(line(3), "new 0<0,1,x", 10);
        fault(line(3), "new 0<0,1,1", 10);
        fault(line(3), "new 0<0,1,9", 10);
        fault(line(3), "new 0<0,x", 8);
        fault(apart(16), "new 0<0,", 8);
        fault(apart(16), "new 0<0,x", 8);
        fault(apart(16), "new 0<", 6);
        fault(apart(16), "new 0<x", 6);
    }

    @Sentence(in = "Terms 1", says = "(of an ITEM without <: when its K has been read).")
    static void judgedBehindK() {
        for (String end : new String[] {"", " ", "x", ";", ";x", " q", "0", ","}) {
            fault(apart(16), "new 0" + end, 0);
            fault(apart(16), "new 3" + end, 0);
            fault(apart(15), "new 0;new 1" + end, 6);
        }
        fault(apart(16), "new 4", 4);
        fault(apart(16), "new ", 4);
        fault(apart(16), "ne", 2);
    }
}
