import java.lang.reflect.InvocationTargetException;
import java.lang.reflect.Method;
import java.util.ArrayList;
import java.util.Arrays;
import java.util.List;
import java.util.Map;
import java.util.Set;
import java.util.TreeMap;
import java.util.TreeSet;
import java.util.function.Consumer;
import java.util.function.ToLongFunction;

/**
 * Refused calls: what they answer, which status counts them, and that all else is as it was. All
 * that can be looked at is compared with an object that had no such call; as an object is good
 * for 512 calls, each bundle of looks has two objects of its own.
 */
final class Refused {
    record Look(String name, ToLongFunction<ProtoOrders> at) {
    }

    private static final int BUNDLE = 350;
    private static final List<List<Look>> BUNDLES = bundles();
    /** The numbers that calls were refused with, by the heading that the test stands under. */
    private static final Map<String, Set<Integer>> SEEN = new TreeMap<>();
    private static String heading = "";

    private Refused() {
    }

    static void under(String newHeading) {
        heading = newHeading;
    }

    static Set<Integer> seenUnder(String asked) {
        return SEEN.getOrDefault(asked, new TreeSet<>());
    }

    static void check(Consumer<ProtoOrders> scene, int want, String name, int... arguments) {
        SEEN.computeIfAbsent(heading, h -> new TreeSet<>()).add(want);
        String call = name + Arrays.toString(arguments);
        int counted = 10 - (want < -10 ? want + 10 : want);
        for (List<Look> bundle : BUNDLES) {
            ProtoOrders without = TestBase.made(scene);
            ProtoOrders with = TestBase.made(scene);
            Due.due(call, answer(with, name, arguments), want);
            for (Look look : bundle) {
                long more = look.name.equals("status " + counted) ? 1 : 0;
                Due.due(look.name + " behind " + call, look.at.applyAsLong(with), look.at.applyAsLong(without) + more);
            }
        }
    }

    /** Calls it by its name; a long comes from an int. */
    private static long answer(ProtoOrders x, String name, int... arguments) {
        try {
            for (Method method : ProtoOrders.class.getMethods()) {
                if (method.getName().equals(name) && method.getParameterCount() == arguments.length) {
                    Object[] given = new Object[arguments.length];
                    for (int i = 0; i < given.length; i++) {
                        boolean wide = method.getParameterTypes()[i] == long.class;
                        given[i] = wide ? (Object) Long.valueOf(arguments[i]) : (Object) Integer.valueOf(arguments[i]);
                    }
                    return ((Number) method.invoke(x, given)).longValue();
                }
            }
            throw new IllegalStateException("no such call: " + name);
        } catch (IllegalAccessException | InvocationTargetException e) {
            throw new IllegalStateException(name + Arrays.toString(arguments), e);
        }
    }

    private static List<List<Look>> bundles() {
        List<List<Look>> all = new ArrayList<>();
        bundle(all, null, numbers());
        bundle(all, null, things());
        bundle(all, null, shelves());
        Look restore = new Look("restore", ProtoOrders::restore);
        bundle(all, restore, things());
        return all;
    }

    /** Cuts the looks into bundles, each behind the look that comes ahead (or null). */
    private static void bundle(List<List<Look>> all, Look ahead, List<Look> looks) {
        for (int from = 0; from < looks.size(); from += BUNDLE) {
            List<Look> some = new ArrayList<>();
            if (ahead != null) {
                some.add(ahead);
            }
            some.addAll(looks.subList(from, Math.min(from + BUNDLE, looks.size())));
            all.add(some);
        }
    }

    private static List<Look> numbers() {
        List<Look> looks = new ArrayList<>();
        for (int i = 0; i < 18; i++) {
            int what = i;
            looks.add(new Look("status " + what, x -> x.status(what)));
        }
        looks.add(new Look("given", ProtoOrders::given));
        looks.add(new Look("fault", ProtoOrders::fault));
        for (int i = 0; i < 31; i++) {
            int place = i;
            looks.add(new Look("trace " + place, x -> x.trace(place)));
        }
        return looks;
    }

    /** The OBJECTS, their SLOTS, the WAYS, SEED, and which OBJECTS the SHELVES hold. */
    private static List<Look> things() {
        List<Look> looks = new ArrayList<>();
        for (int i = 0; i < 5; i++) {
            int what = i;
            looks.add(new Look("status " + what, x -> x.status(what)));
        }
        for (int i = 0; i < 8; i++) {
            int s = i;
            looks.add(new Look("holds " + s, x -> x.holds(s)));
        }
        for (int i = 0; i < 16 * 9; i++) {
            int o = i / 9;
            int what = i % 9;
            looks.add(new Look("objectOf " + o + " " + what, x -> x.objectOf(o, what)));
        }
        for (int i = 0; i < 16 * 16; i++) {
            int o = i / 16;
            int place = i % 16;
            looks.add(new Look("order " + o + " " + place, x -> x.order(o, place)));
            for (int part = 0; part < 3; part++) {
                int what = part;
                looks.add(new Look("slotOf " + o + " " + place + " " + what, x -> x.slotOf(o, place, what)));
            }
        }
        for (int i = 0; i < 32 * 6; i++) {
            int way = i / 6;
            int what = i % 6;
            looks.add(new Look("wayOf " + way + " " + what, x -> x.wayOf(way, what)));
        }
        return looks;
    }

    /** The elements, and how many there are: none can be copied from the end, not from beyond. */
    private static List<Look> shelves() {
        List<Look> looks = new ArrayList<>();
        for (int i = 0; i < 8 * 160; i++) {
            int s = i / 160;
            int place = i % 160;
            looks.add(new Look("element " + s + " " + place, x -> x.element(s, place)));
            looks.add(new Look("an end " + s + " " + place, x -> x.copy(s, s, place, place, 0)));
        }
        return looks;
    }
}
