/** Each promise by hand: ordinary inputs, edges, wrong inputs in the order of their refusals. */
public final class PromisesTest extends TestBase {
    private PromisesTest() {
    }

    private static void promise1() {
        ProtoOrders x = new ProtoOrders();
        due("NONE", NONE, -1);
        int[] first = {0, 0, 0, 0, 1, 0, 0};
        for (int what = 0; what < first.length; what++) {
            due("new status " + what, x.status(what), first[what]);
        }
        for (int s = 0; s < 8; s++) {
            due("new holds", x.holds(s), NONE);
        }
        due("new given", x.given(), 0);
        due("new fault", x.fault(), NONE);
        due("new trace", x.trace(0), NONE);
        refused("new", x, 0, 0, 0, 0, 0, 0, 0);
    }

    private static void promise2() {
        ProtoOrders x = new ProtoOrders();
        due("row", x.row(0, 0, 160), 1);
        due("row of none", x.row(7, 3, 0), 1);
        due("row holds", x.holds(0), 100);
        due("row holds longs", x.holds(7), 103);
        due("row shelf -1", x.row(-1, -1, -1), -1);
        due("row shelf 8", x.row(8, 4, 161), -1);
        due("row below", x.row(0, 4, -1), -4);
        due("row sort 4", x.row(0, 4, 161), -6);
        due("row sort -1", x.row(0, -1, 161), -6);
        due("row long", x.row(0, 3, 161), -7);
        due("row longest", x.row(0, 3, MOST), -7);
        refused("row", x, 2, 0, 0, 1, 0, 2, 2);
        due("refused, it holds as before", x.holds(0), 100);
        x.set(0, 5, 7);
        x.row(0, 2, 9);
        due("a new row is 0", x.element(0, 5), 0);
        due("and has its size", x.set(0, 9, 1), -5);
        x.make(0, 0, 0, 0, 0);
        x.show(0, 0);
        due("row on an object", x.row(0, 1, 1), 1);
        due("row on an object holds", x.holds(0), 101);
    }

    private static void promise3() {
        ProtoOrders x = new ProtoOrders();
        long[] kept = {(byte) 0xCDEF, (short) 0xCDEF, 0x89ABCDEF, 0x123456789ABCDEFL};
        for (int sort = 0; sort < 4; sort++) {
            x.row(sort, sort, 3);
            due("set", x.set(sort, 2, 0x123456789ABCDEFL), 1);
            due("set keeps lowest bits", x.element(sort, 2), kept[sort]);
            due("beside it", x.element(sort, 1), 0);
        }
        x.make(0, 0, 0, 0, 0);
        x.show(4, 0);
        due("set no shelf", x.set(-1, -1, 0), -1);
        due("set no shelf 8", x.set(8, 0, 0), -1);
        due("set object", x.set(4, -1, 0), -2);
        due("set nothing", x.set(5, -1, 0), -3);
        due("set below", x.set(0, -1, 0), -5);
        due("set beyond", x.set(0, 3, 0), -5);
        refused("set", x, 2, 1, 1, 0, 2, 0, 0);
    }

    private static void promise4() {
        ProtoOrders x = new ProtoOrders();
        x.row(0, 2, 5);
        x.row(1, 2, 4);
        for (int i = 0; i < 5; i++) {
            x.set(0, i, i + 1);
        }
        due("copy", x.copy(0, 1, 1, 0, 3), 1);
        due("copied", x.element(1, 0) * 1000 + x.element(1, 1) * 100 + x.element(1, 2) * 10 + x.element(1, 3), 2340);
        due("copy forth in itself", x.copy(0, 0, 0, 1, 4), 1);
        due("as they were ahead", x.element(0, 1) * 1000 + x.element(0, 2) * 100 + x.element(0, 3) * 10 + x.element(0, 4), 1234);
        due("copy back in itself", x.copy(0, 0, 1, 0, 4), 1);
        due("as they were ahead, back", x.element(0, 0) * 1000 + x.element(0, 1) * 100 + x.element(0, 2) * 10 + x.element(0, 3), 1234);
        due("copy none at the ends", x.copy(0, 1, 5, 4, 0), 1);
        x.make(0, 0, 0, 0, 0);
        x.row(2, 3, 9);
        x.show(3, 0);
        due("copy no shelf", x.copy(8, 3, -1, -1, -1), -1);
        due("copy no other shelf", x.copy(3, -1, -1, -1, -1), -1);
        due("copy of an object", x.copy(3, 4, -1, -1, -1), -2);
        due("copy to an object", x.copy(4, 3, -1, -1, -1), -2);
        due("copy two sorts", x.copy(0, 2, -1, -1, -1), -2);
        due("copy from nothing", x.copy(4, 0, -1, -1, -1), -3);
        due("copy to nothing", x.copy(0, 4, -1, -1, -1), -3);
        due("copy below", x.copy(0, 1, -1, -1, -1), -4);
        due("copy from below 0", x.copy(0, 1, -1, 0, 1), -5);
        due("copy to below 0", x.copy(0, 1, 0, -1, 1), -5);
        due("copy end not there", x.copy(0, 1, 3, 0, 3), -5);
        due("copy other end not there", x.copy(0, 1, 0, 2, 3), -5);
        due("copy none beyond", x.copy(0, 1, 6, 0, 0), -5);
        due("copy most", x.copy(0, 1, 1, 1, MOST), -5);
        due("copy from most", x.copy(0, 1, MOST, 0, MOST), -5);
        refused("copy", x, 2, 3, 2, 1, 7, 0, 0);
    }

    private static void promise5() {
        ProtoOrders x = new ProtoOrders();
        x.row(3, 3, 2);
        x.set(3, 1, Long.MIN_VALUE);
        due("element", x.element(3, 1), Long.MIN_VALUE);
        due("element beyond", x.element(3, 2), 0);
        due("element below", x.element(3, -1), 0);
        due("element of no shelf", x.element(8, 0), 0);
        due("element of shelf -1", x.element(-1, 0), 0);
        due("element of nothing", x.element(0, 0), 0);
        x.make(0, 0, 0, 0, 0);
        x.show(3, 0);
        due("element of an object", x.element(3, 1), 0);
        refused("element", x, 0, 0, 0, 0, 0, 0, 0);
    }

    private static void promise6and7() {
        ProtoOrders x = diamond();
        due("show", x.show(0, 3), 1);
        due("holds object", x.holds(0), 3);
        due("show 0", x.show(7, 0), 1);
        due("holds object 0", x.holds(7), 0);
        due("show none", x.show(0, NONE), 0);
        due("holds nothing", x.holds(0), NONE);
        due("show no object", x.show(7, 4), -1);
        due("show object -2", x.show(7, -2), -1);
        due("show no shelf", x.show(8, 0), -1);
        due("show none on no shelf", x.show(-1, NONE), -1);
        refused("show", x, 4, 0, 0, 0, 0, 0, 0);
        due("holds as before", x.holds(7), 0);
        for (int sort = 0; sort < 4; sort++) {
            x.row(1, sort, 1);
            due("holds row", x.holds(1), 100 + sort);
        }
        due("show on a row", x.show(1, 2), 1);
        due("holds it", x.holds(1), 2);
        due("holds no shelf", x.holds(8), NONE);
        due("holds shelf -1", x.holds(-1), NONE);
        refused("holds", x, 4, 0, 0, 0, 0, 0, 0);
    }

    private static void promise8() {
        ProtoOrders x = new ProtoOrders();
        reading(x, "new 0 a=1;new 1<0 b=1 c=2;new 2<1,0 d=1;new 3<1,0 a=1 b=2 e=3");
        // By OBJECT: PLAIN, FIRM, LAST, STILL.
        int[][] want = {{1, -2, -2, -2}, {2, 2, -2, -2}, {3, -2, 2, -2}, {3, 3, -2, 19}};
        for (int o = 0; o < 4; o++) {
            x.show(0, o);
            for (int kind = 0; kind < 4; kind++) {
                due("says of " + o + " as " + kind, x.says(0, kind), want[o][kind]);
            }
        }
        refused("says", x, 0, 8, 0, 0, 0, 0, 0);
        x.row(1, 0, 1);
        due("says no shelf", x.says(8, 0), -1);
        due("says shelf -1", x.says(-1, 0), -1);
        due("says no kind", x.says(1, 4), -1);
        due("says kind -1", x.says(2, -1), -1);
        due("says row", x.says(1, 0), -2);
        due("says nothing", x.says(2, 3), -3);
        refused("says", x, 4, 9, 1, 0, 0, 0, 0);
    }

    private static void promise9() {
        ProtoOrders x = new ProtoOrders();
        due("read", reading(x, "new 0 a=5 b:3.-7 a=-06;new 1<00 p:9.99;new 0;new 3<02,1 c=-99 c:0.0;new 2<3,2,00"), 5);
        due("read kind", x.objectOf(3, 0), 3);
        due("read parents", x.objectOf(3, 1) * 100 + x.objectOf(3, 2) * 10 + x.objectOf(3, 3), 221);
        due("read order", x.objectOf(4, 7), 5);
        due("later slot holds", x.slotOf(0, 0, 2), -6);
        due("later slot is a value", x.slotOf(0, 0, 0), 0);
        due("read method", x.slotOf(0, 1, 0), 1);
        due("read function", x.slotOf(0, 1, 1), 3);
        due("read k", x.slotOf(0, 1, 2), -7);
        due("read p", x.slotOf(1, 15, 2), 99);
        due("later slot of STILL is a method", x.slotOf(3, 2, 0), 1);
        due("later k", x.slotOf(3, 2, 2), 0);
        due("slots read", x.status(2), 4);
        due("read again", reading(x, "new 0<3 b=1"), 1);
        due("its number", x.objectOf(5, 2), 3);
        due("a fault", reading(x, "new 0;new 0<6;new 0<9"), -6);
        due("nothing of it holds", x.status(0), 6);
        due("family as it was", x.objectOf(5, 8), 32);
        due("made behind a fault has no slots", reading(x, "new 0 a=1 b:0.1;x"), -6);
        due("its number", x.make(0, 0, 0, 0, 0), 6);
        due("its slots", x.objectOf(6, 5), 0);
        x.show(0, 0);
        due("read no shelf", x.read(8), -1);
        due("read shelf -1", x.read(-1), -1);
        due("read object", x.read(0), -2);
        due("read nothing", x.read(1), -3);
        refused("read", x, 2, 1, 1, 0, 0, 2, 0);
        due("fault as it was", x.fault(), 16);
        for (int sort = 0; sort < 4; sort++) {
            lay(x, 1, sort, "new 0");
            due("read sort " + sort, x.read(1), 1);
        }
        lay(x, 1, 3, "new 0");
        x.set(1, 2, 'w' + (5L << 32));
        due("lowest 32 bits", x.read(1), 1);
        lay(x, 1, 2, "new 0");
        x.set(1, 2, 'w' + 256);
        due("no letter", x.read(1), -6);
        due("its fault", x.fault(), 2);
    }

    private static void promise10() {
        String[] early = {"", "n", "ne", "new", "new ", "new 0;", "new 0<", "new 0;new 0<0,", "new 0 ", "new 0 a",
            "new 0 a=", "new 0 a=-", "new 0 a:", "new 0 a:0", "new 0 a:0.", "new 0 a:0.-", "new 0 a=1 "};
        for (String text : early) {
            fault(text, text.length());
        }
        fault("new 0", NONE);
        fault("new 0 a=1", NONE);
        fault("new 0 p:9.-99", NONE);
        fault("New 0", 0);
        fault(" new 0", 0);
        fault("new  0", 4);
        fault("new 4", 4);
        fault("new x", 4);
        fault("new 00", 5);
        fault("new 0x", 5);
        fault("new 0  a=1", 6);
        fault("new 0 q=1", 6);
        fault("new 0 `=1", 6);
        fault("new 0 a 1", 7);
        fault("new 0 a= 1", 8);
        fault("new 0 a b", 7);
        fault("new 0 a= b", 8);
        fault("new 0 a: b", 8);
        fault("new 0 a:1. b", 10);
        fault("new 0 a b=1", 7);
        fault("new 0 a=+1", 8);
        fault("new 0 a=--1", 9);
        fault("new 0 a=123", 10);
        fault("new 0 a=-123", 11);
        fault("new 0 a:x.1", 8);
        fault("new 0 a:-1.1", 8);
        fault("new 0 a:10.1", 9);
        fault("new 0 a:1=1", 9);
        fault("new 0 a:1.123", 12);
        fault("new 0;;", 6);
        fault("new 0; new 0", 6);
        fault("new 0<0", 6);
        fault("new 0<x", 6);
        fault("new 0;new 0< 0", 12);
        fault("new 0;new 0<-0", 12);
        fault("new 0;new 0<1", 12);
        fault("new 0;new 0<01", 12);
        fault("new 0;new 0<00", NONE);
        fault("new 0;new 0<000", 14);
        fault("new 0;new 0<99x", 12);
        fault("new 0;new 0<0,0", 14);
        fault("new 0;new 0;new 0<0,1,00", 22);
        fault("new 2;new 0<0", 12);
        fault("new 0;new 2;new 0;new 0<0,2,1", 28);
        fault("new 3;new 1<0;new 0<1", NONE);
        fault("new 0;new 0;new 0;new 0;new 0<0,1,2", NONE);
        fault("new 0;new 0;new 0;new 0;new 0<0,1,2,3", 35);
        // No ORDER: 0 ahead of 1, which is behind it.
        fault("new 0;new 0<0;new 0<0,1", 14);
        fault("new 0;new 0<0;new 0<0,1x", 14);
        fault("new 0;new 0<0;new 0<0,1,", 24);
        fault("new 0;new 0<0;new 0<0,1,x", 24);
        fault("new 0;new 0<0;new 0;new 0<0,1,2,", 31);
        fault("new 0;new 0<0;new 0;new 0<0,1,2x", 20);
        fault("new 0;new 0<0;new 0<0,1 a=1", 14);
        fault("new 0;new 0<0;new 0<1,0", NONE);
        ProtoOrders x = line(15);
        fault(x, "new 0;new 0", 6);
        fault(x, "new 0;new 0x", 6);
        fault(x, "new 0;new 0<0x", 6);
        fault(x, "new 0;new 0<x", 12);
        fault(x, "new 0;new 0<0,", 14);
        fault(x, "new 0;new 4", 10);
        fault(x, "new 0<14", NONE);
        fault(x, "new 0", 0);
        due("fault stays", x.fault(), 0);
        x.read(3);
        due("a read that came to no row", x.fault(), 0);
    }

    private static void promise11() {
        ProtoOrders x = diamond();
        due("make LAST", x.make(2, 1, 3, 9, 9), 4);
        due("make kind -1", x.make(-1, 4, 0, 0, 0), -1);
        due("make kind 4", x.make(4, 4, 0, 0, 0), -1);
        due("make 4 parents", x.make(0, 4, 9, 0, 0), -6);
        due("make -1 parents", x.make(0, -1, 9, 0, 0), -6);
        due("make no parent, one twice", x.make(0, 3, 0, 0, 5), -1);
        due("make no parent, one LAST", x.make(0, 2, 4, 5, 0), -1);
        due("make parent -1", x.make(0, 1, -1, 0, 0), -1);
        due("make twice", x.make(0, 2, 1, 1, 0), -6);
        due("make twice, apart", x.make(0, 3, 1, 2, 1), -6);
        due("make under LAST", x.make(0, 1, 4, 0, 0), -6);
        due("make under LAST behind", x.make(0, 2, 3, 4, 0), -6);
        due("make no order", x.make(0, 2, 0, 1, 0), -6);
        refused("make", x, 5, 0, 0, 0, 0, 7, 0);
        due("make the other order", x.make(1, 2, 2, 1, 0), 5);
        due("make of both", x.make(0, 2, 3, 5, 0), -6);
        due("make of three", x.make(3, 3, 3, 1, 0), 6);
        int[] order = {6, 3, 1, 2, 0, NONE};
        for (int i = 0; i < order.length; i++) {
            due("its order", x.order(6, i), order[i]);
        }
        for (int o = 7; o < 16; o++) {
            due("make " + o, x.make(0, 0, 0, 0, 0), o);
        }
        due("make beyond, kind", x.make(4, 0, 0, 0, 0), -1);
        due("make beyond, n", x.make(0, 4, 0, 0, 0), -6);
        due("make beyond, parent", x.make(0, 1, 16, 0, 0), -1);
        due("make beyond, no order", x.make(0, 2, 0, 1, 0), -6);
        due("make beyond", x.make(0, 0, 0, 0, 0), -7);
        refused("make", x, 7, 0, 0, 0, 0, 10, 1);
    }

    private static void promise12() {
        ProtoOrders x = diamond();
        x.make(2, 0, 0, 0, 0);
        due("would be", x.wouldBe(2, 3, 2, 9, NONE), 4);
        int[] order = {3, 1, 2, 0, NONE};
        for (int i = 0; i < order.length; i++) {
            due("would be " + i, x.wouldBe(2, 3, 2, 9, i), order[i]);
        }
        due("would be -2", x.wouldBe(1, 0, 0, 0, -2), NONE);
        due("would be of none", x.wouldBe(0, 9, 9, 9, NONE), 0);
        due("would be of none, first", x.wouldBe(0, 9, 9, 9, 0), NONE);
        due("no order", x.wouldBe(2, 0, 1, 9, NONE), 99);
        due("no order, first", x.wouldBe(2, 0, 1, 9, 0), 99);
        refused("would be", x, 0, 0, 0, 0, 0, 0, 0);
        due("would be n 4", x.wouldBe(4, 9, 0, 0, 0), -16);
        due("would be n -1", x.wouldBe(-1, 9, 0, 0, 0), -16);
        due("would be no parent", x.wouldBe(3, 4, 4, 5, 0), -11);
        due("would be twice", x.wouldBe(2, 1, 1, 0, 0), -16);
        due("would be LAST", x.wouldBe(1, 4, 0, 0, 0), -16);
        refused("would be", x, 1, 0, 0, 0, 0, 4, 0);
        due("nothing made", x.status(0), 5);
        // Of three rows the first that may: 1 and 2 are their own, 0 comes last.
        due("three parents", x.wouldBe(3, 2, 1, 0, 0) * 100 + x.wouldBe(3, 2, 1, 0, 1) * 10 + x.wouldBe(3, 2, 1, 0, 2), 210);
        due("full, it would be all the same", line(16).wouldBe(1, 15, 0, 0, NONE), 16);
    }

    private static void promise13to15() {
        ProtoOrders x = new ProtoOrders();
        reading(x, "new 0;new 1;new 2;new 3 a=1");
        for (int o = 0; o < 3; o++) {
            due("value", x.value(o, 15, LEAST), 0);
            due("value again", x.value(o, 15, 8), 1);
            due("value holds", x.slotOf(o, 15, 2), 8);
            due("method over it", x.method(o, 15, 9, -99), 1);
            due("method new", x.method(o, 0, 0, 99), 0);
            due("methods", x.slotOf(o, 15, 0) + x.slotOf(o, 0, 0), 2);
            due("value over a method", x.value(o, 0, 3), 1);
            due("is no method", x.slotOf(o, 0, 0) + x.slotOf(o, 0, 1), 0);
            due("remove", x.remove(o, 0), 1);
            due("remove again", x.remove(o, 0), -5);
            due("slot is no more", x.objectOf(o, 5), 1 << 15);
            due("value behind it", x.value(o, 0, 3), 0);
        }
        due("value no object", x.value(4, 0, 0), -1);
        due("value object -1", x.value(-1, 0, 0), -1);
        due("value no slot", x.value(3, 16, 0), -1);
        due("value slot -1", x.value(3, -1, 0), -1);
        due("value STILL", x.value(3, 0, 0), -6);
        due("method no object", x.method(4, 0, 10, 0), -1);
        due("method no slot", x.method(3, -1, 10, 0), -1);
        due("method slot 16", x.method(0, 16, 0, 0), -1);
        due("method function 10", x.method(0, 0, 10, 0), -6);
        due("method function -1", x.method(0, 0, -1, 0), -6);
        due("method k 100", x.method(0, 0, 0, 100), -6);
        due("method k -100", x.method(0, 0, 0, -100), -6);
        due("method STILL", x.method(3, 0, 0, 0), -6);
        due("remove no object", x.remove(-1, 0), -1);
        due("remove no slot", x.remove(0, 16), -1);
        due("remove STILL has none", x.remove(3, 1), -5);
        due("remove STILL", x.remove(3, 0), -6);
        refused("value, method, remove", x, 9, 0, 0, 0, 4, 7, 0);
        due("STILL as it was", x.slotOf(3, 0, 2), 1);
    }

    private static void promise16to20() {
        ProtoOrders x = diamond();
        x.make(1, 3, 3, 2, 0);
        x.value(0, 0, 1);
        x.value(0, 1, 1);
        x.value(1, 1, 1);
        x.value(2, 0, 1);
        x.value(2, 1, 1);
        x.value(3, 5, 1);
        int[] of = {1, 3, 3, 2, 0, 0, 35, 5, 16};
        for (int what = 0; what < of.length; what++) {
            due("objectOf 4, " + what, x.objectOf(4, what), of[what]);
        }
        due("objectOf family", x.objectOf(2, 8), 4 + 8 + 16);
        due("objectOf second parent", x.objectOf(3, 3), 2);
        due("objectOf third parent", x.objectOf(3, 4), NONE);
        due("objectOf no parent", x.objectOf(0, 2), NONE);
        due("objectOf own slots", x.objectOf(2, 5), 3);
        due("objectOf found slots", x.objectOf(1, 6), 3);
        due("objectOf 9", x.objectOf(4, 9), -5);
        due("objectOf -1", x.objectOf(4, -1), -5);
        due("objectOf no such", x.objectOf(5, 0), -5);
        due("objectOf object -1", x.objectOf(-1, 0), -5);
        int[] order = {4, 3, 1, 2, 0};
        for (int i = 0; i < order.length; i++) {
            due("order", x.order(4, i), order[i]);
            due("distance", x.distance(4, order[i]), i);
        }
        due("order beyond", x.order(4, 5), NONE);
        due("order -1", x.order(4, -1), NONE);
        due("order most", x.order(4, MOST), NONE);
        due("order no object", x.order(5, 0), -11);
        due("distance none", x.distance(1, 2), NONE);
        due("distance none down", x.distance(0, 3), NONE);
        due("distance no object", x.distance(5, 0), -11);
        due("distance no other", x.distance(0, -1), -11);
        due("where a", x.where(4, 0), 2);
        due("where b", x.where(4, 1), 1);
        due("where f", x.where(4, 5), 3);
        due("where none", x.where(2, 5), NONE);
        due("where no object", x.where(-1, 0), -11);
        due("where no slot", x.where(0, 16), -11);
        due("hidden 0", x.hidden(4, 0), 3);
        due("hidden 2", x.hidden(4, 2), 2);
        due("hidden 1", x.hidden(4, 1), 0);
        due("hidden of itself", x.hidden(2, 2), 0);
        due("hidden not in the order", x.hidden(1, 2), -6);
        due("hidden no object", x.hidden(5, 0), -1);
        due("hidden no other", x.hidden(0, 5), -1);
        refused("objectOf to hidden", x, 7, 0, 0, 0, 4, 1, 0);
    }

    private static void promise21() {
        ProtoOrders x = line(2);
        x.method(0, 3, 7, -12);
        x.value(1, 4, LEAST);
        due("slotOf method", x.slotOf(0, 3, 0), 1);
        due("slotOf function", x.slotOf(0, 3, 1), 7);
        due("slotOf k", x.slotOf(0, 3, 2), -12);
        due("slotOf value", x.slotOf(1, 4, 0), 0);
        due("slotOf value's function", x.slotOf(1, 4, 1), 0);
        due("slotOf value itself", x.slotOf(1, 4, 2), LEAST);
        due("slotOf a parent's", x.slotOf(1, 3, 0), 0);
        due("slotOf 3", x.slotOf(0, 3, 3), 0);
        due("slotOf -1", x.slotOf(0, 3, -1), 0);
        due("slotOf no slot", x.slotOf(0, 16, 0), 0);
        due("slotOf slot -1", x.slotOf(1, -1, 0), 0);
        due("slotOf no object", x.slotOf(2, 0, 0), 0);
        due("slotOf object -1", x.slotOf(-1, 0, 0), 0);
        x.remove(0, 3);
        due("slotOf a slot that is no more", x.slotOf(0, 3, 1) + x.slotOf(0, 3, 2), 0);
        refused("slotOf", x, 0, 0, 0, 0, 0, 0, 0);
    }

    private static void promise22functions() {
        ProtoOrders x = line(3);
        x.value(0, 0, 50);
        gives("value", x, 2, 0, 9, 50);
        due("a value runs nothing", x.status(6), 0);
        fails("not found", x, 2, 1, 9, 1);
        x.method(1, 1, 0, -3);
        gives("ADD", x, 2, 1, 10, 7);
        gives("ADD wraps", x, 2, 1, LEAST, LEAST - 3);
        x.method(1, 1, 1, -3);
        gives("TIMES", x, 2, 1, 10, -30);
        gives("TIMES wraps", x, 2, 1, MOST, MOST * -3);
        x.method(2, 1, 2, 5);
        gives("NEXT", x, 2, 1, 10, -45);
        due("NEXT ran two", x.status(6), 2);
        x.method(2, 1, 3, 99);
        gives("TWICE", x, 2, 1, 10, 90);
        due("TWICE ran three", x.status(6), 3);
        x.method(2, 0, 2, 1);
        gives("NEXT finds a value", x, 2, 0, 10, 50);
        x.method(2, 2, 2, 1);
        fails("NEXT, there is none", x, 2, 2, 10, 1);
        due("it ran", x.status(6), 1);
        x.method(0, 3, 4, 1);
        gives("SELF", x, 2, 3, 10, 90);
        gives("SELF is the receiver", x, 1, 3, 10, -30);
        fails("SELF finds none", x, 0, 3, 10, 1);
        x.method(0, 3, 4, -15);
        gives("SELF, k modulo 16", x, 1, 3, 10, -30);
        x.method(0, 3, 4, 97);
        gives("SELF, k modulo 16 above", x, 1, 3, 10, -30);
        x.method(1, 1, 0, 7);
        x.method(0, 3, 5, 17);
        gives("SUM", x, 1, 3, 10, 17);
        gives("SUM wraps", x, 1, 3, MOST, MOST + 7);
        x.method(0, 4, 7, 5);
        gives("WHEN at least", x, 2, 4, 5, 5);
        fails("WHEN less", x, 2, 4, 4, 1);
        x.method(2, 4, 7, 100 - 1);
        gives("WHEN less, NEXT gives", x, 2, 4, 6, 6);
        x.method(1, 5, 8, 3);
        gives("COUNT", x, 2, 5, 10, 11);
        x.method(2, 5, 3, 0);
        gives("COUNT twice", x, 2, 5, 10, 15);
        x.method(2, 6, 9, -8);
        gives("GUARD, none", x, 2, 6, 10, -8);
        x.method(1, 6, 0, 1);
        gives("GUARD, one", x, 2, 6, 10, 11);
        x.method(1, 6, 4, 14);
        gives("GUARD of a failing one", x, 2, 6, 10, -8);
    }

    private static void promise22sets() {
        ProtoOrders x = new ProtoOrders();
        reading(x, "new 0 a:6.3 b:6.-1;new 0<0;new 1<0;new 2<0;new 3<0 c:9.7");
        gives("SET", x, 1, 0, 42, 42);
        due("SET in SELF itself", x.slotOf(1, 3, 2), 42);
        due("not in the finder", x.slotOf(0, 3, 2), 0);
        gives("SET k -1", x, 1, 1, 8, 8);
        due("SET p", x.slotOf(1, 15, 2), 8);
        fails("SET FIRM", x, 2, 0, 1, 1);
        gives("SET LAST", x, 3, 0, 1, 1);
        fails("SET STILL", x, 4, 0, 1, 1);
        due("SET none", x.objectOf(2, 5), 0);
        due("GUARD of a STILL", x.send(4, 2, 1), 0);
        // a: TWICE of (SELF b); b SETS itself to x, so that the second SEND finds a VALUE.
        ProtoOrders y = line(2);
        y.method(1, 0, 3, 0);
        y.method(0, 0, 4, 1);
        y.method(1, 1, 6, 1);
        due("a trial's METHODS", y.trial(1, 0, 9, 1), 4);
        due("a trial SETS nothing", y.slotOf(1, 1, 0), 1);
        gives("SET what is sent to", y, 1, 0, 9, 9);
        due("TWICE, SELF, SET, SELF", y.status(6), 4);
        due("b is a VALUE now", y.slotOf(1, 1, 0) * 100 + y.slotOf(1, 1, 2), 9);
        // i: SUM of j; j SETS i to 0: what waits goes on as it was.
        y.method(1, 8, 5, 9);
        y.method(1, 9, 6, 8);
        gives("SET what waits", y, 1, 8, 11, 11);
        due("i is a VALUE now", y.slotOf(1, 8, 0) * 100 + y.slotOf(1, 8, 2), 0);
        gives("i gives it", y, 1, 8, 11, 0);
    }

    /** By WAYS, as in a SEND alone nothing FAILS behind a SET. */
    private static void promise22undoes() {
        ProtoOrders x = line(3);
        x.value(2, 5, 77);
        x.way(0, 0, 0, 1, 6, 4);
        x.way(0, 0, 0, 1, 6, 5);
        x.way(0, 0, 0, 0, 2, 0);
        calls("BEFORES SET, MAIN FAILS", x, 2, 0, 5, 1, 0);
        due("e is not SET", x.objectOf(2, 5), 32);
        due("f is as it was", x.slotOf(2, 5, 2), 77);
        x.way(0, 1, 0, 3, 9, -5);
        calls("GUARD makes it good", x, 2, 0, 5, 0, -5);
        due("e is SET", x.slotOf(2, 4, 2), 5);
        due("f is SET", x.slotOf(2, 5, 2), 5);
        x.method(1, 0, 4, 0);
        x.way(1, 0, 0, 1, 6, 6);
        x.way(1, 0, 0, 0, 4, 0);
        x.way(1, 0, 0, 3, 9, 1);
        due("BEFORE SETS, MAIN ENDS", x.call(1, 2, 0, 5), 2);
        due("g is not SET", x.objectOf(2, 5), 48);
    }

    /**
     * A SLOT that ten in a line have. NEXT makes one METHOD more, TWICE doubles what is behind it
     * and makes one more, so that NEXT, TWICE at the front come to 200, TWICE, NEXT to 201.
     */
    private static ProtoOrders chain(int first, int second, int last) {
        ProtoOrders x = line(10);
        int[] functions = {last, 2, 3, 3, 3, 2, 3, 3, second, first};
        for (int o = 0; o < 10; o++) {
            x.method(o, 0, functions[o], o == 0 ? 1 : 0);
        }
        return x;
    }

    private static void promise22ends() {
        ProtoOrders x = line(3);
        x.method(2, 0, 4, 0);
        fails("SELF for ever", x, 2, 0, 1, 2);
        due("200 ran", x.status(6), 200);
        x.method(2, 0, 5, 0);
        fails("SUM for ever", x, 2, 0, 1, 2);
        due("200 SUMS ran", x.status(6), 200);
        x.way(0, 0, 0, 0, 5, 0);
        calls("SUM for ever in THE CORE", x, 2, 2, 1, 2, 0);
        due("200 ran in it", x.status(6), 200);
        x.method(2, 1, 9, 5);
        x.method(1, 1, 4, 0);
        fails("no GUARD helps", x, 2, 1, 1, 2);
        due("200 ran with a GUARD", x.status(6), 200);
        ProtoOrders y = chain(2, 3, 0);
        gives("200 METHODS", y, 9, 0, 5, 69);
        due("200 of 200", y.status(6), 200);
        due("trial of 200", y.trial(9, 0, 5, 0) * 1000 + y.trial(9, 0, 5, 1), 200);
        y = chain(3, 2, 0);
        fails("201 METHODS", y, 9, 0, 5, 2);
        due("200 of 201", y.status(6), 200);
        due("trial of 201", y.trial(9, 0, 5, 0) * 1000 + y.trial(9, 0, 5, 1), 2200);
        y = chain(2, 3, 6);
        gives("200 METHODS that SET", y, 9, 0, 5, 5);
        due("SET stays", y.slotOf(9, 1, 2), 5);
        y = chain(3, 2, 6);
        fails("201 METHODS that SET", y, 9, 0, 5, 2);
        due("SET goes", y.objectOf(9, 5), 1);
    }

    private static void promise22waits() {
        ProtoOrders x = waiting(200);
        x.value(0, 13, 1000);
        gives("200 wait", x, 15, 0, 5, 1005);
        due("200 waited", x.status(6), 200);
        x.remove(0, 13);
        gives("the last GUARD makes it good", x, 15, 0, 5, 17);
        // The very last that waits is a GUARD with a k of its own.
        x.remove(0, 12);
        x.method(8, 12, 9, 12);
        x.method(1, 12, 9, 55);
        gives("the 200th makes it good", x, 15, 0, 5, 60);
        due("200 with the 200th", x.status(6), 200);
        x = waiting(201);
        x.value(0, 13, 1000);
        fails("201 wait", x, 15, 0, 5, 2);
        // A GUARD around, THE CORE, and a SUM in it wait too.
        x = waiting(198);
        x.value(0, 13, 1000);
        x.way(0, 0, 0, 3, 9, 7);
        x.way(0, 0, 0, 0, 5, 0);
        calls("200 and THE CORE wait", x, 15, 0, 5, 0, 1005);
        due("200 and THE CORE", x.status(6), 200);
        x.remove(0, 12);
        x.method(6, 12, 9, 12);
        x.method(1, 12, 9, 55);
        calls("the 200th makes it good in THE CORE", x, 15, 0, 5, 0, 60);
        x.way(0, 0, 0, 3, 9, 7);
        calls("201 and THE CORE wait", x, 15, 0, 5, 2, 0);
        // A new act counts anew.
        x = line(1);
        x.method(0, 0, 4, 0);
        x.method(0, 1, 8, 0);
        fails("all 200", x, 0, 0, 5, 2);
        due("a trial counts anew", x.trial(0, 1, 0, 0) * 10 + x.trial(0, 1, 0, 1), 1);
        x.send(0, 0, 5);
        gives("a send counts anew", x, 0, 1, 0, 1);
        x.send(0, 0, 5);
        x.way(0, 0, 0, 0, 8, 0);
        calls("a call counts anew", x, 0, 0, 0, 0, 1);
        x.send(0, 0, 5);
        x.row(0, 2, 2);
        x.set(0, 1, 1);
        due("a judge counts anew", x.judge(0, 0, 1, 1), NONE);
    }

    /** WAYS and METHODS count together: 198 and some more AROUND. */
    private static void promise22endsByWays() {
        for (int more = 0; more < 4; more++) {
            ProtoOrders x = line(9);
            // TWICE over TWICE .. over ADD: slot a comes to 127 METHODS, slot b to 63.
            for (int o = 1; o < 7; o++) {
                x.method(o, 0, 3, 0);
            }
            for (int o = 1; o < 6; o++) {
                x.method(o, 1, 3, 0);
            }
            x.method(0, 0, 0, 1);
            x.method(0, 1, 0, 1);
            for (int i = 0; i < 6 + more; i++) {
                x.way(0, 0, 0, 3, 2, 0);
            }
            x.way(0, 0, 0, 1, 5, 0);
            x.way(0, 0, 0, 0, 5, 1);
            int ran = 6 + more + 128 + 64;
            calls("with " + ran, x, 8, 0, 5, ran > 200 ? 2 : 0, ran > 200 ? 0 : 37);
            due("ran of " + ran, x.status(6), Math.min(ran, 200));
            due("ways of " + ran, x.status(5), 8 + more);
        }
    }

    private static void promise22refusals() {
        ProtoOrders x = line(1);
        x.value(0, 0, 3);
        x.send(0, 0, 0);
        due("send no object", x.send(1, 0, 0), -1);
        due("send object -1", x.send(-1, 0, 0), -1);
        due("send no slot", x.send(0, 16, 0), -1);
        due("send slot -1", x.send(0, -1, 0), -1);
        due("given as it was", x.given(), 3);
        refused("send", x, 4, 0, 0, 0, 0, 0, 0);
    }

    private static void promise23() {
        ProtoOrders x = line(1);
        x.value(0, 0, 3);
        x.method(0, 1, 0, 1);
        x.way(0, 0, 0, 0, 1, 5);
        x.row(0, 2, 2);
        gives("value", x, 0, 0, 1, 3);
        x.trial(0, 1, 8, 0);
        due("not a trial's", x.given(), 3);
        x.judge(0, 0, 1, 1);
        due("not a judge's", x.given(), 3);
        x.days(5);
        due("not a day's", x.given(), 3);
        x.value(0, 0, 3);
        due("call", x.call(0, 0, 0, 4), 0);
        due("a call's", x.given(), 20);
        due("send that fails", x.send(0, 15, 4), 1);
        due("nothing", x.given(), 0);
        x.call(0, 0, 0, 4);
        due("call that fails", x.call(1, 0, 0, 4), 1);
        due("nothing of a call", x.given(), 0);
    }

    private static void promise24() {
        ProtoOrders x = line(2);
        x.method(0, 0, 6, 1);
        x.method(0, 2, 4, 2);
        gives("a send ahead", x, 1, 0, 5, 5);
        x.remove(1, 1);
        due("trial gives", x.trial(1, 0, 5, 0), 0);
        due("trial ran", x.trial(1, 0, 5, 1), 1);
        due("trial SETS nothing", x.objectOf(1, 5), 0);
        due("trial fails", x.trial(1, 3, 5, 0), 1);
        due("trial ran none", x.trial(1, 3, 5, 1), 0);
        due("trial ends", x.trial(1, 2, 5, 0), 2);
        due("trial ran 200", x.trial(1, 2, 5, 1), 200);
        due("given is the send's", x.given(), 5);
        due("status 6 is the send's", x.status(6), 1);
        due("trial no object", x.trial(2, 0, 0, 2), -1);
        due("trial no slot", x.trial(0, -1, 0, 2), -1);
        due("trial what 2", x.trial(0, 0, 0, 2), -5);
        due("trial what -1", x.trial(0, 0, 0, -1), -5);
        refused("trial", x, 2, 0, 0, 0, 2, 0, 0);
    }

    private static void promise25and26() {
        ProtoOrders x = line(2);
        due("way", x.way(7, 1, 0, 3, 9, -99), 0);
        int[] of = {7, 1, 0, 3, 9, 1};
        for (int what = 0; what < of.length; what++) {
            due("wayOf " + what, x.wayOf(0, what), of[what]);
        }
        due("way with 99", x.way(0, 0, 1, 0, 0, 99), 1);
        due("wayOf k 99", x.wayOf(1, 5), 199);
        due("wayOf q", x.wayOf(1, 2), 1);
        due("way generic 8", x.way(8, 0, 0, 4, 0, 0), -1);
        due("way generic -1", x.way(-1, 0, 0, 4, 0, 0), -1);
        due("way no p", x.way(0, 2, 0, 4, 0, 0), -1);
        due("way no q", x.way(0, 0, -1, 4, 0, 0), -1);
        due("way sort 4", x.way(0, 0, 0, 4, 0, 0), -6);
        due("way sort -1", x.way(0, 0, 0, -1, 0, 0), -6);
        due("way function 10", x.way(0, 0, 0, 0, 10, 0), -6);
        due("way function -1", x.way(0, 0, 0, 0, -1, 0), -6);
        due("way k 100", x.way(0, 0, 0, 0, 0, 100), -6);
        due("way k -100", x.way(0, 0, 0, 0, 0, -100), -6);
        due("wayOf none", x.wayOf(2, 0), -5);
        due("wayOf -1", x.wayOf(-1, 0), -5);
        due("wayOf 6", x.wayOf(0, 6), -5);
        due("wayOf what -1", x.wayOf(0, -1), -5);
        refused("way", x, 4, 0, 0, 0, 4, 6, 0);
        due("two ways", x.status(1), 2);
        for (int way = 2; way < 32; way++) {
            due("way", x.way(1, 0, 0, 0, 0, 0), way);
        }
        due("way beyond, wrong", x.way(1, 0, 0, 0, 0, 100), -6);
        due("way beyond", x.way(1, 0, 0, 0, 0, 0), -7);
        due("32 ways", x.status(1), 32);
        refused("way beyond", x, 4, 0, 0, 0, 4, 7, 1);
    }

    private static void promise27and28() {
        ProtoOrders x = line(3);
        // FAR for (2, 2): 0: 4; 1: 3 (by a 1); 2: 3 (by a 2); 3: 3 (by a 1), later than 1.
        x.way(0, 0, 0, 0, 0, 0);
        x.way(0, 1, 0, 0, 0, 0);
        x.way(0, 0, 1, 0, 0, 0);
        x.way(0, 1, 0, 0, 0, 0);
        x.way(1, 2, 2, 0, 0, 0);
        x.way(0, 2, 2, 1, 0, 0);
        int[] stand = {3, 1, 2, 0, NONE};
        due("applies", x.applies(0, 2, 2, 0, NONE), 4);
        for (int i = 0; i < stand.length; i++) {
            due("applies " + i, x.applies(0, 2, 2, 0, i), stand[i]);
        }
        due("applies -2", x.applies(0, 2, 2, 0, -2), NONE);
        due("applies most", x.applies(0, 2, 2, 0, MOST), NONE);
        due("applies to (1, 0)", x.applies(0, 1, 0, 0, NONE), 3);
        due("applies to (0, 1)", x.applies(0, 0, 1, 0, NONE), 2);
        due("nearest of (0, 1)", x.applies(0, 0, 1, 0, 0), 2);
        due("applies BEFORE", x.applies(0, 2, 2, 1, 0), 5);
        due("applies AFTER", x.applies(0, 2, 2, 2, NONE), 0);
        due("applies AFTER first", x.applies(0, 2, 2, 2, 0), NONE);
        due("applies generic 1", x.applies(1, 2, 2, 0, NONE), 1);
        due("tie", x.tie(0, 2, 2), 1);
        due("tie of (0, 1)", x.tie(0, 0, 1), 0);
        due("tie of one", x.tie(1, 2, 2), 0);
        due("tie of none", x.tie(2, 2, 2), 0);
        // FAR the same, DISTANCE of a not: a TIE all the same.
        ProtoOrders y = line(2);
        y.way(0, 0, 1, 0, 0, 0);
        y.way(0, 1, 0, 0, 0, 0);
        due("tie by FAR", y.tie(0, 1, 1), 1);
        due("nearer a first", y.applies(0, 1, 1, 0, 0), 1);
        y.way(0, 1, 1, 0, 0, 0);
        due("the first two differ", y.tie(0, 1, 1), 0);
        y.way(0, 1, 1, 3, 0, 0);
        due("AROUND makes none", y.tie(0, 1, 1), 0);
        due("applies no generic", y.applies(8, 0, 0, 4, 0), -11);
        due("applies no a", y.applies(0, 2, 0, 4, 0), -11);
        due("applies no b", y.applies(0, 0, -1, 4, 0), -11);
        due("applies no sort", y.applies(0, 0, 0, 4, 0), -16);
        due("applies sort -1", y.applies(0, 0, 0, -1, 0), -16);
        due("tie no generic", y.tie(-1, 0, 0), -1);
        due("tie no a", y.tie(0, -1, 0), -1);
        due("tie no b", y.tie(0, 0, 2), -1);
        refused("applies, tie", y, 6, 0, 0, 0, 0, 2, 0);
    }

    private static void promise29and30() {
        ProtoOrders x = line(2);
        calls("no way", x, 1, 1, 5, 1, 0);
        traces("no way", x);
        x.way(0, 0, 0, 1, 0, 0);
        x.way(0, 0, 0, 2, 0, 0);
        x.way(0, 0, 0, 3, 2, 1);
        calls("no MAIN", x, 1, 1, 5, 1, 0);
        traces("no MAIN, at once", x, 2);
        due("no MAIN ran", x.status(6), 1);
        x.way(0, 0, 0, 0, 1, 10);
        calls("one of each", x, 1, 1, 5, 0, 60);
        traces("one of each", x, 2, 0, 3, 1);
        x.way(0, 1, 1, 0, 2, 3);
        calls("MAIN goes NEXT", x, 1, 1, 5, 0, 90);
        traces("MAIN goes NEXT", x, 2, 0, 4, 3, 1);
        x.way(0, 1, 1, 1, 9, 3);
        x.way(0, 1, 1, 2, 9, 3);
        x.way(0, 1, 1, 3, 3, 0);
        calls("AROUND TWICE", x, 1, 1, 5, 0, 940);
        traces("AROUND TWICE", x, 7, 2, 5, 0, 4, 3, 1, 6, 2, 5, 0, 4, 3, 1, 6);
        due("status 6", x.status(6), 15);
        due("call with (0, 1)", x.call(0, 0, 1, 5), 0);
        traces("call with (0, 1)", x, 2, 0, 3, 1);
        x.send(0, 0, 0);
        traces("a send leaves the trace", x, 2, 0, 3, 1);
        due("trace -1", x.trace(-1), NONE);
        due("trace least", x.trace(LEAST), NONE);
        due("call no generic", x.call(8, 0, 0, 0), -1);
        due("call no a", x.call(0, 2, 0, 0), -1);
        due("call no b", x.call(0, 0, -1, 0), -1);
        traces("refused, the trace stays", x, 2, 0, 3, 1);
        refused("call", x, 3, 0, 0, 0, 0, 0, 0);
    }

    private static void promise29parts() {
        // What BEFORE and AFTER run with, is what they SET: a by BEFORE, b by AFTER.
        ProtoOrders x = line(2);
        x.way(0, 0, 0, 1, 6, 0);
        x.way(0, 0, 0, 2, 6, 1);
        x.way(0, 0, 0, 0, 0, 10);
        x.way(0, 0, 0, 3, 2, 90);
        calls("parts", x, 1, 0, 5, 0, 105);
        due("BEFORE ran with what THE CORE came with", x.slotOf(1, 0, 2), 95);
        due("AFTER ran with what MAIN gave", x.slotOf(1, 1, 2), 105);
        due("SELF is a", x.objectOf(0, 5), 0);
        // BEFORE with no NEXT FAILS all.
        ProtoOrders y = line(1);
        y.way(0, 0, 0, 0, 0, 0);
        y.way(1, 0, 0, 0, 0, 0);
        y.way(0, 0, 0, 1, 2, 0);
        calls("BEFORE fails", y, 0, 0, 5, 1, 0);
        traces("BEFORE fails", y, 2);
        y.way(1, 0, 0, 2, 7, 9);
        due("AFTER fails", y.call(1, 0, 0, 5), 1);
        traces("AFTER fails", y, 1, 3);
        due("AFTER gives", y.call(1, 0, 0, 9), 0);
        due("AFTER's is left", y.given(), 9);
        y.way(1, 0, 0, 3, 9, -4);
        due("GUARD around", y.call(1, 0, 0, 5), 0);
        due("GUARD gave", y.given(), -4);
        // A MAIN GUARD makes MAIN good, and AFTER still runs.
        ProtoOrders z = line(2);
        z.way(0, 0, 0, 0, 2, 0);
        z.way(0, 1, 0, 0, 9, 6);
        z.way(0, 0, 0, 2, 6, 2);
        calls("MAIN GUARD", z, 1, 0, 5, 0, 6);
        due("AFTER ran with it", z.slotOf(1, 2, 2), 6);
        traces("MAIN GUARD", z, 1, 0, 2);
        // WAYS and METHODS count together; SELF of a WAY sends to a.
        z.method(1, 0, 8, 0);
        z.way(1, 0, 0, 0, 4, 0);
        due("SELF in a WAY", z.call(1, 1, 0, 5), 0);
        due("COUNT in it", z.given(), 7);
        due("ran in it", z.status(6), 2);
        due("ways in it", z.status(5), 1);
        due("b is no SELF", z.call(1, 0, 1, 5), 1);
        // FIRM a: SET FAILS.
        ProtoOrders w = new ProtoOrders();
        w.make(3, 0, 0, 0, 0);
        w.way(0, 0, 0, 0, 6, 2);
        calls("SET of a STILL", w, 0, 0, 5, 1, 0);
    }

    private static void promise30first30() {
        ProtoOrders x = line(1);
        x.way(0, 0, 0, 0, 0, 1);
        for (int i = 0; i < 5; i++) {
            x.way(0, 0, 0, 3, 3, 0);
        }
        calls("31 and 32", x, 0, 0, 5, 0, 37);
        due("63 ways ran", x.status(5), 63);
        due("trace 29", x.trace(29) != NONE ? 1 : 0, 1);
        due("trace 30", x.trace(30), NONE);
        // AROUND 5 4 3 2 1, MAIN 0 0, 1, 0 0, 2 ..
        int[] first = {5, 4, 3, 2, 1, 0, 0, 1, 0, 0, 2, 1, 0, 0, 1, 0, 0, 3};
        for (int i = 0; i < first.length; i++) {
            due("trace " + i, x.trace(i), first[i]);
        }
        for (int i = 0; i < 3; i++) {
            x.way(0, 0, 0, 3, 3, 0);
        }
        calls("it ENDS", x, 0, 0, 5, 2, 0);
        due("200 ways ran", x.status(5), 200);
        due("its trace", x.trace(0), 8);
    }

    private static void promise31() {
        ProtoOrders x = line(2);
        x.method(0, 0, 1, 3);
        int[] table = {1, 3, -2, -6, 5, 14, 0, 0};
        x.row(0, 3, 9);
        for (int i = 0; i < table.length; i++) {
            x.set(0, i, table[i] + (7L << 32));
        }
        due("judge 0", x.judge(0, 1, 0, 0), NONE);
        due("judge 2", x.judge(0, 1, 0, 2), NONE);
        due("judge 3", x.judge(0, 1, 0, 3), 2);
        due("judge 4", x.judge(0, 1, 0, 4), 2);
        due("judge fails", x.judge(0, 1, 1, 4), 0);
        x.method(0, 1, 4, 1);
        due("judge ends", x.judge(0, 1, 1, 1), 0);
        x.method(0, 2, 6, 5);
        x.row(1, 0, 160);
        due("judge SETS", x.judge(1, 1, 2, 80), NONE);
        due("it SETS nothing", x.objectOf(1, 5), 0);
        // COUNT goes on from two to two: 1, 2, 3 ..
        x.method(0, 3, 8, 0);
        for (int i = 0; i < 80; i++) {
            x.set(1, 2 * i + 1, i + 1);
        }
        due("judge counts together", x.judge(1, 1, 3, 80), NONE);
        // TWICE and COUNT: 3 METHODS each: 66 twos run 198, the 67th ENDS.
        x.method(0, 4, 1, 0);
        x.method(1, 4, 3, 0);
        x.row(1, 0, 160);
        due("judge ends together", x.judge(1, 1, 4, 80), 66);
        due("status 6 is not judge's", x.status(6), 0);
        x.show(2, 0);
        due("judge no shelf", x.judge(8, 0, 0, -1), -11);
        due("judge no object", x.judge(2, 2, 0, -1), -11);
        due("judge no slot", x.judge(3, 0, 16, -1), -11);
        due("judge an object", x.judge(2, 0, 0, -1), -12);
        due("judge nothing", x.judge(3, 0, 0, -1), -13);
        due("judge below", x.judge(0, 0, 0, -1), -14);
        due("judge too few", x.judge(0, 0, 0, 5), -15);
        due("judge 81", x.judge(1, 0, 0, 81), -15);
        due("judge most", x.judge(0, 0, 0, MOST), -15);
        refused("judge", x, 3, 1, 1, 1, 3, 0, 0);
    }

    private static void promise32() {
        ProtoOrders x = new ProtoOrders();
        due("days of no object", x.days(0), -5);
        x.make(0, 0, 0, 0, 0);
        due("days 0", x.days(0), -6);
        due("days 41", x.days(41), -6);
        due("days least", x.days(LEAST), -6);
        refused("days", x, 0, 0, 0, 0, 1, 3, 0);
        due("no draw was made", x.status(4), 1);
        // PLAIN and STILL, no METHODS: only what is drawn tells what comes.
        x.make(3, 0, 0, 0, 0);
        int[] seed = {1};
        int[] values = new int[16];
        java.util.Arrays.fill(values, NONE);
        for (int day = 0; day < 40; day++) {
            int o = drawn(seed, 2);
            int slot = drawn(seed, 16);
            int deed = drawn(seed, 3);
            if (deed == 1) {
                drawn(seed, 100);
            } else if (o == 0) {
                values[slot] = deed == 0 ? drawn(seed, 100) : NONE;
            }
        }
        int many = 0;
        for (int value : values) {
            many += value == NONE ? 0 : 1;
        }
        due("days 40", x.days(40), many);
        due("its seed", x.status(4), seed[0]);
        for (int slot = 0; slot < 16; slot++) {
            due("day's slot " + slot, (x.objectOf(0, 5) >> slot & 1) == 0 ? NONE : x.slotOf(0, slot, 2), values[slot]);
        }
        due("STILL has none", x.objectOf(1, 5), 0);
        daysSend();
        daysCountTogether();
    }

    /** A day that sends: what it SETS stays if it gives. */
    private static void daysSend() {
        for (int start = 0; start < 400; start++) {
            int[] seed = {start};
            drawn(seed, 1);
            int slot = drawn(seed, 16);
            int deed = drawn(seed, 3);
            ProtoOrders x = new ProtoOrders();
            x.make(0, 0, 0, 0, 0);
            // What ran ahead does not count.
            x.method(0, slot, 4, slot);
            x.send(0, slot, 0);
            x.seed(start);
            x.method(0, slot, 6, 15 - slot);
            int with = deed == 2 ? 0 : drawn(seed, 100);
            due("a day", x.days(1), deed == 0 ? 1 : deed == 1 ? 2 : 0);
            due("a day's seed", x.status(4), seed[0]);
            due("a day's send", x.slotOf(0, 15 - slot, 2), deed == 1 ? with : 0);
            due("a day is no send", x.status(6) + x.given(), 200);
        }
    }

    /** METHODS of all SENDS of some days count together, and the days go on behind an END. */
    private static void daysCountTogether() {
        for (int start = 0; start < 300; start++) {
            ProtoOrders x = new ProtoOrders();
            Model m = new Model();
            x.seed(start);
            m.seed(start);
            for (int o = 0; o < 5; o++) {
                int parents = o == 0 ? 0 : 1;
                x.make(0, parents, o - 1, 0, 0);
                m.make(0, parents, o - 1, 0, 0);
                for (int slot = 0; slot < 16; slot++) {
                    // TWICE over TWICE .. over SET: up to 31 METHODS a SEND.
                    int function = o == 0 ? 6 : 3;
                    x.method(o, slot, function, slot + 1);
                    m.method(o, slot, function, slot + 1);
                }
            }
            due("many days", x.days(40), m.days(40));
            due("many days' seed", x.status(4), m.status(4));
            for (int o = 0; o < 5; o++) {
                for (int slot = 0; slot < 16; slot++) {
                    due("many days' sort", x.slotOf(o, slot, 0), m.slotOf(o, slot, 0));
                    due("many days' slot", x.slotOf(o, slot, 2), m.slotOf(o, slot, 2));
                }
            }
        }
    }

    private static void promise33() {
        ProtoOrders x = new ProtoOrders();
        due("seed at first", x.seed(LEAST), 1);
        due("seed", x.seed(-5), LEAST);
        due("seed status", x.status(4), -5);
        x.make(3, 0, 0, 0, 0);
        x.days(1);
        int[] seed = {-5};
        drawn(seed, 1);
        drawn(seed, 16);
        if (drawn(seed, 3) == 1) {
            drawn(seed, 100);
        }
        due("seed drawn", x.seed(0), seed[0]);
    }

    private static void promise34and35() {
        ProtoOrders x = new ProtoOrders();
        due("restore none", x.restore(), -6);
        refused("restore", x, 0, 0, 0, 0, 0, 1, 0);
        due("image of none", x.image(), 0);
        due("restore of none", x.restore(), 0);
        x.make(0, 0, 0, 0, 0);
        x.make(1, 1, 0, 0, 0);
        x.value(0, 0, 5);
        x.method(1, 1, 3, 7);
        x.way(0, 0, 1, 0, 0, 1);
        x.seed(77);
        due("image", x.image(), 2);
        x.make(0, 2, 1, 0, 0);
        x.value(0, 0, 6);
        x.remove(1, 1);
        x.method(0, 2, 0, 0);
        x.way(0, 0, 0, 3, 2, 1);
        x.seed(78);
        x.show(0, 1);
        x.show(1, 2);
        x.row(2, 1, 3);
        x.set(2, 1, 9);
        x.call(0, 1, 1, 4);
        reading(x, "new 9");
        x.show(7, NONE);
        x.send(5, 0, 0);
        due("call gave", x.given(), 6);
        due("restore", x.restore(), 2);
        due("objects", x.status(0), 2);
        due("ways", x.status(1), 1);
        due("slots", x.status(2), 2);
        due("methods", x.status(3), 1);
        due("seed", x.status(4), 77);
        due("value", x.slotOf(0, 0, 2), 5);
        due("method", x.slotOf(1, 1, 0) * 100 + x.slotOf(1, 1, 1) * 10 + x.slotOf(1, 1, 2), 137);
        due("shelf of 1", x.holds(0), 1);
        due("shelf of 2", x.holds(1), NONE);
        due("shelf of a row", x.holds(2), 101);
        due("its element", x.element(2, 1), 9);
        due("given stays", x.given(), 6);
        due("trace stays", x.trace(0) * 10 + x.trace(1), 10);
        due("status 5 stays", x.status(5), 2);
        due("status 6 stays", x.status(6), 2);
        due("fault stays", x.fault(), 4);
        refused("refusals stay", x, 1, 0, 0, 0, 0, 2, 0);
        // The image is there still, and is a copy.
        x.value(0, 0, 99);
        x.value(1, 4, 99);
        x.seed(3);
        due("restore again", x.restore(), 2);
        due("value again", x.slotOf(0, 0, 2), 5);
        due("slots again", x.status(2), 2);
        due("seed again", x.status(4), 77);
        due("a new one", x.make(0, 1, 1, 0, 0), 2);
        due("has no slots", x.objectOf(2, 5), 0);
        due("image anew", x.image(), 3);
        due("family", x.objectOf(0, 8), 7);
    }

    private static void promise36() {
        ProtoOrders x = line(2);
        x.value(0, 0, 1);
        x.value(0, 1, 1);
        x.method(1, 1, 0, 0);
        x.method(1, 2, 6, 3);
        x.way(0, 0, 0, 0, 4, 2);
        x.seed(9);
        x.call(0, 1, 0, 0);
        int[] want = {2, 1, 5, 2, 9, 1, 2};
        for (int what = 0; what < want.length; what++) {
            due("status " + what, x.status(what), want[what]);
        }
        x.send(1, 1, 0);
        due("status 6 of a send", x.status(6), 1);
        due("status 5 of the call", x.status(5), 1);
        int[] none = {-1, 7, 8, 9, 10, 18, 19, LEAST, MOST};
        for (int what : none) {
            due("status " + what, x.status(what), NONE);
        }
        x.send(9, 0, 0);
        x.says(0, 0);
        x.row(1, 0, 1);
        x.says(1, 0);
        x.row(0, 0, -1);
        x.remove(0, 9);
        x.days(0);
        x.row(0, 0, 161);
        refused("each", x, 1, 1, 1, 1, 1, 1, 1);
    }

    public static void main(String[] args) {
        promise1();
        promise2();
        promise3();
        promise4();
        promise5();
        promise6and7();
        promise8();
        promise9();
        promise10();
        promise11();
        promise12();
        promise13to15();
        promise16to20();
        promise21();
        promise22functions();
        promise22sets();
        promise22undoes();
        promise22ends();
        promise22endsByWays();
        promise22waits();
        promise22refusals();
        promise23();
        promise24();
        promise25and26();
        promise27and28();
        promise29and30();
        promise29parts();
        promise30first30();
        promise31();
        promise32();
        promise33();
        promise34and35();
        promise36();
        Due.end("PromisesTest");
    }
}
