import java.util.Arrays;

/** An object system of prototypes, as ../shared/DOC.md promises it. */
public final class ProtoOrders {
    public static final int NONE = -1;

    private static final int NOBODY = -1;
    private static final int OTHER = -2;
    private static final int NOTHING = -3;
    private static final int BELOW = -4;
    private static final int BEYOND = -5;
    private static final int WRONG = -6;
    private static final int ROOM = -7;
    private static final int REFUSALS = 7;

    private static final int OBJECTS = 16;
    private static final int PARENTS = 3;
    private static final int SLOTS = 16;
    private static final int FUNCTIONS = 10;
    private static final int MOST_K = 99;
    private static final int KINDS = 4;
    private static final int PLAIN = 0;
    private static final int FIRM = 1;
    private static final int LAST = 2;
    private static final int STILL = 3;

    private static final int GENERICS = 8;
    private static final int WAYS = 32;
    private static final int WAY_PARTS = 6;
    private static final int SORTS = 4;
    private static final int MAIN = 0;
    private static final int BEFORE = 1;
    private static final int AFTER = 2;
    private static final int AROUND = 3;

    private static final int SHELVES = 8;
    private static final int LONGEST = 160;
    private static final int ROW_SORTS = 4;
    private static final int ROW_MARK = 100;

    private static final int GAVE = 0;
    private static final int NO_ORDER = 99;
    private static final int MOST_DAYS = 40;

    private final Runner runner = new Runner();
    private final World world = runner.world;
    private final World image = new World();
    private final Shelves shelves = new Shelves();
    private final Merge merge = new Merge();
    private final Reader reader = new Reader();
    private final int[] refusals = new int[REFUSALS + 1];
    private boolean imaged;
    private int fault = NONE;
    private int given;
    private int methodsRan;

    public ProtoOrders() {
    }

    // ---- shelves and rows

    public int row(int s, int sort, int n) {
        if (!shelves.isShelf(s)) {
            return refuse(NOBODY);
        }
        if (n < 0) {
            return refuse(BELOW);
        }
        if (sort < 0 || sort >= ROW_SORTS) {
            return refuse(WRONG);
        }
        if (n > LONGEST) {
            return refuse(ROOM);
        }
        shelves.lay(s, sort, n);
        return 1;
    }

    public int set(int s, int i, long v) {
        int no = shelves.whyNoRow(s);
        if (no != 0) {
            return refuse(no);
        }
        if (!shelves.hasElement(s, i)) {
            return refuse(BEYOND);
        }
        shelves.put(s, i, v);
        return 1;
    }

    public int copy(int p, int q, int i, int j, int n) {
        if (!shelves.isShelf(p) || !shelves.isShelf(q)) {
            return refuse(NOBODY);
        }
        if (shelves.holdsObject(p) || shelves.holdsObject(q) || shelves.areOfTwoSorts(p, q)) {
            return refuse(OTHER);
        }
        if (!shelves.holdsRow(p) || !shelves.holdsRow(q)) {
            return refuse(NOTHING);
        }
        if (n < 0) {
            return refuse(BELOW);
        }
        if (!shelves.hasStretch(p, i, n) || !shelves.hasStretch(q, j, n)) {
            return refuse(BEYOND);
        }
        shelves.move(p, q, i, j, n);
        return 1;
    }

    public long element(int s, int i) {
        return shelves.hasElement(s, i) ? shelves.longAt(s, i) : 0;
    }

    public int show(int s, int o) {
        if (!shelves.isShelf(s) || (o != NONE && !world.hasObject(o))) {
            return refuse(NOBODY);
        }
        shelves.contents[s] = o;
        return o == NONE ? 0 : 1;
    }

    public int holds(int s) {
        return shelves.isShelf(s) ? shelves.contents[s] : NONE;
    }

    public int says(int s, int kind) {
        if (!shelves.isShelf(s) || !isKind(kind)) {
            return refuse(NOBODY);
        }
        int o = shelves.contents[s];
        if (shelves.holdsRow(s) || (shelves.holdsObject(s) && !world.isOfKind(o, kind))) {
            return refuse(OTHER);
        }
        if (o == NONE) {
            return refuse(NOTHING);
        }
        switch (kind) {
            case PLAIN:
                return world.orderSizes[o];
            case FIRM:
                return Integer.bitCount(world.ownSlots(o));
            case LAST:
                return world.parentCounts[o];
            default:
                return world.ownSlots(o);
        }
    }

    // ---- texts

    public int read(int s) {
        int no = shelves.whyNoRow(s);
        if (no != 0) {
            return refuse(no);
        }
        reader.lay(shelves, s);
        fault = reader.readText(world, merge);
        return fault == NONE ? reader.items : refuse(WRONG);
    }

    public int fault() {
        return fault;
    }

    // ---- objects and their slots

    public int make(int kind, int n, int p, int q, int r) {
        if (!isKind(kind)) {
            return refuse(NOBODY);
        }
        int no = whyNoParents(n, p, q, r);
        if (no != 0) {
            return refuse(no);
        }
        if (!merge.findOrder(world)) {
            return refuse(WRONG);
        }
        if (world.isFull()) {
            return refuse(ROOM);
        }
        return world.addObject(kind, merge);
    }

    public int wouldBe(int n, int p, int q, int r, int i) {
        int no = whyNoParents(n, p, q, r);
        if (no != 0) {
            return refuseByTen(no);
        }
        if (!merge.findOrder(world)) {
            return NO_ORDER;
        }
        if (i == NONE) {
            return merge.size;
        }
        return i >= 0 && i < merge.size ? merge.merged[i] : NONE;
    }

    public int value(int o, int slot, int v) {
        if (!world.hasObject(o) || !isSlot(slot)) {
            return refuse(NOBODY);
        }
        if (world.kinds[o] == STILL) {
            return refuse(WRONG);
        }
        int had = world.hasOwn(o, slot) ? 1 : 0;
        world.putValue(o, slot, v);
        return had;
    }

    public int method(int o, int slot, int function, int k) {
        if (!world.hasObject(o) || !isSlot(slot)) {
            return refuse(NOBODY);
        }
        if (!isFunction(function, k) || world.kinds[o] == STILL) {
            return refuse(WRONG);
        }
        int had = world.hasOwn(o, slot) ? 1 : 0;
        world.putMethod(o, slot, function, k);
        return had;
    }

    public int remove(int o, int slot) {
        if (!world.hasObject(o) || !isSlot(slot)) {
            return refuse(NOBODY);
        }
        if (!world.hasOwn(o, slot)) {
            return refuse(BEYOND);
        }
        if (world.kinds[o] == STILL) {
            return refuse(WRONG);
        }
        world.drop(o, slot);
        return 1;
    }

    public int objectOf(int o, int what) {
        if (!world.hasObject(o)) {
            return refuse(BEYOND);
        }
        switch (what) {
            case 0:
                return world.kinds[o];
            case 1:
                return world.parentCounts[o];
            case 2:
            case 3:
            case 4:
                return world.parentAt(o, what - 2);
            case 5:
                return world.ownSlots(o);
            case 6:
                return world.foundSlots(o);
            case 7:
                return world.orderSizes[o];
            case 8:
                return world.family(o);
            default:
                return refuse(BEYOND);
        }
    }

    public int order(int o, int i) {
        if (!world.hasObject(o)) {
            return refuseByTen(NOBODY);
        }
        return i >= 0 && i < world.orderSizes[o] ? world.orderAt(o, i) : NONE;
    }

    public int distance(int o, int p) {
        if (!world.hasObject(o) || !world.hasObject(p)) {
            return refuseByTen(NOBODY);
        }
        return world.distanceTo(o, p);
    }

    public int where(int o, int slot) {
        if (!world.hasObject(o) || !isSlot(slot)) {
            return refuseByTen(NOBODY);
        }
        return world.foundIn(o, slot);
    }

    public int hidden(int o, int p) {
        if (!world.hasObject(o) || !world.hasObject(p)) {
            return refuse(NOBODY);
        }
        if (world.distanceTo(o, p) == NONE) {
            return refuse(WRONG);
        }
        return world.hiddenSlots(o, p);
    }

    public int slotOf(int o, int slot, int what) {
        if (!world.hasObject(o) || !isSlot(slot) || !world.hasOwn(o, slot)) {
            return 0;
        }
        int place = o * SLOTS + slot;
        switch (what) {
            case 0:
                return world.slotSorts[place] == World.METHOD ? 1 : 0;
            case 1:
                return world.slotFunctions[place];
            case 2:
                return world.slotNumbers[place];
            default:
                return 0;
        }
    }

    // ---- sends

    public int send(int o, int slot, int x) {
        if (!world.hasObject(o) || !isSlot(slot)) {
            return refuse(NOBODY);
        }
        runner.beginAct();
        int outcome = runner.sendSlot(o, slot, x);
        given = runner.number;
        methodsRan = runner.ran;
        return outcome;
    }

    public int given() {
        return given;
    }

    public int trial(int o, int slot, int x, int what) {
        if (!world.hasObject(o) || !isSlot(slot)) {
            return refuse(NOBODY);
        }
        if (what != 0 && what != 1) {
            return refuse(BEYOND);
        }
        runner.beginAct();
        int outcome = runner.sendSlot(o, slot, x);
        runner.undo();
        return what == 0 ? outcome : runner.ran;
    }

    // ---- ways and calls

    public int way(int generic, int p, int q, int sort, int function, int k) {
        if (!isGeneric(generic) || !world.hasObject(p) || !world.hasObject(q)) {
            return refuse(NOBODY);
        }
        if (!isSort(sort) || !isFunction(function, k)) {
            return refuse(WRONG);
        }
        if (world.isFullOfWays()) {
            return refuse(ROOM);
        }
        return world.addWay(generic, p, q, sort, function, k);
    }

    public int wayOf(int way, int what) {
        if (way < 0 || way >= world.ways || what < 0 || what >= WAY_PARTS) {
            return refuse(BEYOND);
        }
        int part = world.wayPart(way, what);
        return what == 5 ? part + 100 : part;
    }

    public int applies(int generic, int a, int b, int sort, int i) {
        if (!isGeneric(generic) || !world.hasObject(a) || !world.hasObject(b)) {
            return refuseByTen(NOBODY);
        }
        if (!isSort(sort)) {
            return refuseByTen(WRONG);
        }
        runner.applying.find(world, generic, a, b);
        int size = runner.applying.sizes[sort];
        if (i == NONE) {
            return size;
        }
        return i >= 0 && i < size ? runner.applying.wayAt(sort, i) : NONE;
    }

    public int tie(int generic, int a, int b) {
        if (!isGeneric(generic) || !world.hasObject(a) || !world.hasObject(b)) {
            return refuse(NOBODY);
        }
        runner.applying.find(world, generic, a, b);
        return runner.applying.isTied() ? 1 : 0;
    }

    public int call(int generic, int a, int b, int x) {
        if (!isGeneric(generic) || !world.hasObject(a) || !world.hasObject(b)) {
            return refuse(NOBODY);
        }
        runner.beginAct();
        int outcome = runner.callGeneric(generic, a, b, x);
        given = runner.number;
        methodsRan = runner.ran;
        return outcome;
    }

    public int trace(int i) {
        return i >= 0 && i < runner.waysRan && i < Runner.TRACED ? runner.traced[i] : NONE;
    }

    // ---- tables, days, images

    public int judge(int s, int o, int slot, int n) {
        if (!shelves.isShelf(s) || !world.hasObject(o) || !isSlot(slot)) {
            return refuseByTen(NOBODY);
        }
        int no = shelves.whyNoRow(s);
        if (no != 0) {
            return refuseByTen(no);
        }
        if (n < 0) {
            return refuseByTen(BELOW);
        }
        // No ROW has elements for an n above 80, so this is ahead of every -16.
        if (2L * n > shelves.sizes[s]) {
            return refuseByTen(BEYOND);
        }
        runner.beginAct();
        for (int two = 0; two < n; two++) {
            int outcome = runner.sendSlot(o, slot, shelves.intAt(s, 2 * two));
            runner.undo();
            if (outcome != GAVE || runner.number != shelves.intAt(s, 2 * two + 1)) {
                return two;
            }
        }
        return NONE;
    }

    public int days(int n) {
        if (world.objects == 0) {
            return refuse(BEYOND);
        }
        if (n < 1 || n > MOST_DAYS) {
            return refuse(WRONG);
        }
        runner.beginAct();
        for (int day = 0; day < n; day++) {
            liveDay();
        }
        return world.slotsOfAll();
    }

    public int seed(int v) {
        int was = world.seed;
        world.seed = v;
        return was;
    }

    public int image() {
        image.takeFrom(world);
        imaged = true;
        return image.objects;
    }

    public int restore() {
        if (!imaged) {
            return refuse(WRONG);
        }
        world.takeFrom(image);
        shelves.dropObjectsFrom(world.objects);
        return world.objects;
    }

    public int status(int what) {
        switch (what) {
            case 0:
                return world.objects;
            case 1:
                return world.ways;
            case 2:
                return world.slotsOfAll();
            case 3:
                return world.methodsOfAll();
            case 4:
                return world.seed;
            case 5:
                return runner.waysRan;
            case 6:
                return methodsRan;
            default:
                return what > 10 && what <= 10 + REFUSALS ? refusals[what - 10] : NONE;
        }
    }

    // ---- what the calls share

    private int refuse(int number) {
        if (number < 0 && number >= -REFUSALS) {
            refusals[-number]++;
        }
        return number;
    }

    /** For calls of which -1 is an answer too. */
    private int refuseByTen(int number) {
        return refuse(number) - 10;
    }

    /** Lays the first n of p, q, r in merge: 0, or the REFUSAL of what can't be PARENTS. */
    private int whyNoParents(int n, int p, int q, int r) {
        if (n < 0 || n > PARENTS) {
            return WRONG;
        }
        merge.tellFirst(n, p, q, r);
        for (int i = 0; i < n; i++) {
            if (!world.hasObject(merge.parents[i])) {
                return NOBODY;
            }
        }
        for (int i = 0; i < n; i++) {
            if (merge.standsAhead(i) || world.kinds[merge.parents[i]] == LAST) {
                return WRONG;
            }
        }
        return 0;
    }

    private void liveDay() {
        int o = world.draw(world.objects);
        int slot = world.draw(SLOTS);
        int deed = world.draw(3);
        boolean still = world.kinds[o] == STILL;
        if (deed == 1) {
            runner.sendSlot(o, slot, world.draw(100));
        } else if (deed == 0 && !still) {
            world.putValue(o, slot, world.draw(100));
        } else if (deed == 2 && !still) {
            world.drop(o, slot);
        }
    }

    private static boolean isKind(int kind) {
        return kind >= 0 && kind < KINDS;
    }

    private static boolean isSlot(int slot) {
        return slot >= 0 && slot < SLOTS;
    }

    private static boolean isGeneric(int generic) {
        return generic >= 0 && generic < GENERICS;
    }

    private static boolean isSort(int sort) {
        return sort >= 0 && sort < SORTS;
    }

    private static boolean isFunction(int function, int k) {
        return function >= 0 && function < FUNCTIONS && k >= -MOST_K && k <= MOST_K;
    }

    /** All that THE IMAGE takes: the OBJECTS with their SLOTS, the WAYS, SEED. */
    private static final class World {
        static final int EMPTY = 0;
        static final int VALUE = 1;
        static final int METHOD = 2;

        int objects;
        int ways;
        int seed = 1;
        final int[] kinds = new int[OBJECTS];
        final int[] parentCounts = new int[OBJECTS];
        final int[] parents = new int[OBJECTS * PARENTS];
        final int[] orderSizes = new int[OBJECTS];
        final int[] orders = new int[OBJECTS * OBJECTS];
        final int[] slotSorts = new int[OBJECTS * SLOTS];
        final int[] slotFunctions = new int[OBJECTS * SLOTS];
        final int[] slotNumbers = new int[OBJECTS * SLOTS];
        private final int[] wayParts = new int[WAYS * WAY_PARTS];

        boolean hasObject(int o) {
            return o >= 0 && o < objects;
        }

        boolean isFull() {
            return objects >= OBJECTS;
        }

        /** The new OBJECT's number; merge holds its PARENTS and has found its ORDER. */
        int addObject(int kind, Merge merge) {
            int o = objects;
            kinds[o] = kind;
            parentCounts[o] = merge.parentCount;
            System.arraycopy(merge.parents, 0, parents, o * PARENTS, merge.parentCount);
            orders[o * OBJECTS] = o;
            System.arraycopy(merge.merged, 0, orders, o * OBJECTS + 1, merge.size);
            orderSizes[o] = merge.size + 1;
            for (int slot = 0; slot < SLOTS; slot++) {
                drop(o, slot);
            }
            objects = o + 1;
            return o;
        }

        boolean isFullOfWays() {
            return ways >= WAYS;
        }

        /** The new WAY's number. */
        int addWay(int generic, int p, int q, int sort, int function, int k) {
            int way = ways;
            int base = way * WAY_PARTS;
            wayParts[base] = generic;
            wayParts[base + 1] = p;
            wayParts[base + 2] = q;
            wayParts[base + 3] = sort;
            wayParts[base + 4] = function;
            wayParts[base + 5] = k;
            ways = way + 1;
            return way;
        }

        int parentAt(int o, int i) {
            return i < parentCounts[o] ? parents[o * PARENTS + i] : NONE;
        }

        int orderAt(int o, int i) {
            return orders[o * OBJECTS + i];
        }

        int wayPart(int way, int part) {
            return wayParts[way * WAY_PARTS + part];
        }

        boolean isOfKind(int o, int kind) {
            return kind == PLAIN || kinds[o] == kind || (kind == FIRM && kinds[o] == STILL);
        }

        int distanceTo(int o, int p) {
            for (int i = 0; i < orderSizes[o]; i++) {
                if (orderAt(o, i) == p) {
                    return i;
                }
            }
            return NONE;
        }

        boolean hasOwn(int o, int slot) {
            return slotSorts[o * SLOTS + slot] != EMPTY;
        }

        void putValue(int o, int slot, int v) {
            slotSorts[o * SLOTS + slot] = VALUE;
            slotFunctions[o * SLOTS + slot] = 0;
            slotNumbers[o * SLOTS + slot] = v;
        }

        void putMethod(int o, int slot, int function, int k) {
            slotSorts[o * SLOTS + slot] = METHOD;
            slotFunctions[o * SLOTS + slot] = function;
            slotNumbers[o * SLOTS + slot] = k;
        }

        void drop(int o, int slot) {
            slotSorts[o * SLOTS + slot] = EMPTY;
        }

        /** The first place from one on in the ORDER of o whose OBJECT has the SLOT; NONE. */
        int placeFrom(int o, int slot, int from) {
            for (int i = from; i < orderSizes[o]; i++) {
                if (hasOwn(orderAt(o, i), slot)) {
                    return i;
                }
            }
            return NONE;
        }

        int foundIn(int o, int slot) {
            int place = placeFrom(o, slot, 0);
            return place == NONE ? NONE : orderAt(o, place);
        }

        int ownSlots(int o) {
            int bits = 0;
            for (int slot = 0; slot < SLOTS; slot++) {
                if (hasOwn(o, slot)) {
                    bits |= 1 << slot;
                }
            }
            return bits;
        }

        int foundSlots(int o) {
            int bits = 0;
            for (int i = 0; i < orderSizes[o]; i++) {
                bits |= ownSlots(orderAt(o, i));
            }
            return bits;
        }

        int hiddenSlots(int o, int p) {
            int bits = 0;
            for (int slot = 0; slot < SLOTS; slot++) {
                if (hasOwn(p, slot) && foundIn(o, slot) != p) {
                    bits |= 1 << slot;
                }
            }
            return bits;
        }

        int family(int p) {
            int bits = 0;
            for (int o = 0; o < objects; o++) {
                if (distanceTo(o, p) != NONE) {
                    bits |= 1 << o;
                }
            }
            return bits;
        }

        int slotsOfAll() {
            int many = 0;
            for (int o = 0; o < objects; o++) {
                many += Integer.bitCount(ownSlots(o));
            }
            return many;
        }

        int methodsOfAll() {
            int many = 0;
            for (int place = 0; place < objects * SLOTS; place++) {
                if (slotSorts[place] == METHOD) {
                    many++;
                }
            }
            return many;
        }

        int draw(int below) {
            seed = seed * 1103515245 + 12345;
            return below > 0 ? (seed >>> 16) % below : 0;
        }

        void takeFrom(World other) {
            objects = other.objects;
            ways = other.ways;
            seed = other.seed;
            System.arraycopy(other.kinds, 0, kinds, 0, OBJECTS);
            System.arraycopy(other.parentCounts, 0, parentCounts, 0, OBJECTS);
            System.arraycopy(other.parents, 0, parents, 0, OBJECTS * PARENTS);
            System.arraycopy(other.orderSizes, 0, orderSizes, 0, OBJECTS);
            System.arraycopy(other.orders, 0, orders, 0, OBJECTS * OBJECTS);
            System.arraycopy(other.slotSorts, 0, slotSorts, 0, OBJECTS * SLOTS);
            System.arraycopy(other.slotFunctions, 0, slotFunctions, 0, OBJECTS * SLOTS);
            System.arraycopy(other.slotNumbers, 0, slotNumbers, 0, OBJECTS * SLOTS);
            System.arraycopy(other.wayParts, 0, wayParts, 0, WAYS * WAY_PARTS);
        }
    }

    /** The PARENTS told for one OBJECT, and the MERGE of their ORDERS. */
    private static final class Merge {
        static final int ROWS = PARENTS + 1;

        final int[] parents = new int[PARENTS];
        int parentCount;
        final int[] merged = new int[OBJECTS];
        int size;
        private final int[] rows = new int[ROWS * OBJECTS];
        private final int[] starts = new int[ROWS];
        private final int[] ends = new int[ROWS];

        void tellFirst(int n, int p, int q, int r) {
            parents[0] = p;
            parents[1] = q;
            parents[2] = r;
            parentCount = n;
        }

        void tellNone() {
            parentCount = 0;
        }

        boolean tells(int p) {
            for (int i = 0; i < parentCount; i++) {
                if (parents[i] == p) {
                    return true;
                }
            }
            return false;
        }

        void tellOneMore(int p) {
            if (parentCount < PARENTS) {
                parents[parentCount] = p;
                parentCount++;
            }
        }

        boolean standsAhead(int place) {
            for (int i = 0; i < place; i++) {
                if (parents[i] == parents[place]) {
                    return true;
                }
            }
            return false;
        }

        /** Whether there is an ORDER; without the OBJECT itself it stands in merged. */
        boolean findOrder(World world) {
            layRows(world);
            size = 0;
            // One turn more than there are OBJECTS, to see that all rows are empty.
            for (int turn = 0; turn <= OBJECTS; turn++) {
                if (areAllEmpty()) {
                    return true;
                }
                int next = findNext();
                if (next == NONE || size >= OBJECTS) {
                    return false;
                }
                merged[size] = next;
                size++;
                takeOut(next);
            }
            return false;
        }

        private void layRows(World world) {
            Arrays.fill(starts, 0);
            Arrays.fill(ends, 0);
            for (int row = 0; row < parentCount; row++) {
                int p = parents[row];
                ends[row] = world.orderSizes[p];
                System.arraycopy(world.orders, p * OBJECTS, rows, row * OBJECTS, ends[row]);
            }
            ends[PARENTS] = parentCount;
            System.arraycopy(parents, 0, rows, PARENTS * OBJECTS, parentCount);
        }

        private boolean areAllEmpty() {
            for (int row = 0; row < ROWS; row++) {
                if (starts[row] < ends[row]) {
                    return false;
                }
            }
            return true;
        }

        private int findNext() {
            for (int row = 0; row < ROWS; row++) {
                if (starts[row] < ends[row]) {
                    int first = rows[row * OBJECTS + starts[row]];
                    if (!standsBehindAFirst(first)) {
                        return first;
                    }
                }
            }
            return NONE;
        }

        private boolean standsBehindAFirst(int p) {
            for (int row = 0; row < ROWS; row++) {
                for (int i = starts[row] + 1; i < ends[row]; i++) {
                    if (rows[row * OBJECTS + i] == p) {
                        return true;
                    }
                }
            }
            return false;
        }

        private void takeOut(int p) {
            for (int row = 0; row < ROWS; row++) {
                if (starts[row] < ends[row] && rows[row * OBJECTS + starts[row]] == p) {
                    starts[row]++;
                }
            }
        }
    }

    /** What the SHELVES hold: NONE, an OBJECT's number, or ROW_MARK and the SORT of a ROW. */
    private static final class Shelves {
        final int[] contents = new int[SHELVES];
        final int[] sizes = new int[SHELVES];
        private final long[] elements = new long[SHELVES * LONGEST];

        Shelves() {
            Arrays.fill(contents, NONE);
        }

        boolean isShelf(int s) {
            return s >= 0 && s < SHELVES;
        }

        boolean holdsRow(int s) {
            return contents[s] >= ROW_MARK;
        }

        boolean holdsObject(int s) {
            return contents[s] != NONE && contents[s] < ROW_MARK;
        }

        boolean areOfTwoSorts(int p, int q) {
            return holdsRow(p) && holdsRow(q) && contents[p] != contents[q];
        }

        /** 0 if SHELF s holds a ROW, or the REFUSAL. */
        int whyNoRow(int s) {
            if (!isShelf(s)) {
                return NOBODY;
            }
            if (holdsObject(s)) {
                return OTHER;
            }
            return holdsRow(s) ? 0 : NOTHING;
        }

        void lay(int s, int sort, int n) {
            contents[s] = ROW_MARK + sort;
            sizes[s] = n;
            Arrays.fill(elements, s * LONGEST, s * LONGEST + n, 0L);
        }

        boolean hasElement(int s, int i) {
            return isShelf(s) && holdsRow(s) && i >= 0 && i < sizes[s];
        }

        boolean hasStretch(int s, int i, int n) {
            return i >= 0 && (long) i + n <= sizes[s];
        }

        void put(int s, int i, long v) {
            int place = s * LONGEST + i;
            switch (contents[s] - ROW_MARK) {
                case 0:
                    elements[place] = (byte) v;
                    break;
                case 1:
                    elements[place] = (short) v;
                    break;
                case 2:
                    elements[place] = (int) v;
                    break;
                default:
                    elements[place] = v;
                    break;
            }
        }

        void move(int p, int q, int i, int j, int n) {
            System.arraycopy(elements, p * LONGEST + i, elements, q * LONGEST + j, n);
        }

        long longAt(int s, int i) {
            return elements[s * LONGEST + i];
        }

        int intAt(int s, int i) {
            return (int) elements[s * LONGEST + i];
        }

        /** SHELVES with OBJECTS of this number or a later one hold NOTHING. */
        void dropObjectsFrom(int first) {
            for (int s = 0; s < SHELVES; s++) {
                if (holdsObject(s) && contents[s] >= first) {
                    contents[s] = NONE;
                }
            }
        }
    }

    /** Reads a TEXT; its steps answer whether they could, and mark the FAULT if not. */
    private static final class Reader {
        int items;
        private final int[] text = new int[LONGEST];
        private int size;
        private int at;
        private int faultAt;
        private int number;

        void lay(Shelves shelves, int s) {
            size = shelves.sizes[s];
            for (int i = 0; i < size; i++) {
                text[i] = shelves.intAt(s, i);
            }
        }

        /** NONE, or the FAULT: then the world is as it was. */
        int readText(World world, Merge merge) {
            int before = world.objects;
            at = 0;
            items = 0;
            faultAt = NONE;
            boolean more = true;
            for (int turn = 0; turn <= LONGEST && more; turn++) {
                more = readItem(world, merge) && at < size && pass(';');
            }
            if (faultAt != NONE) {
                world.objects = before;
            }
            return faultAt;
        }

        private boolean readItem(World world, Merge merge) {
            int start = at;
            if (!pass('n') || !pass('e') || !pass('w') || !pass(' ')) {
                return false;
            }
            if (!digitStands() || !isKind(text[at] - '0')) {
                return markFault(at);
            }
            int kind = text[at] - '0';
            at++;
            merge.tellNone();
            if (stands('<') && !readParents(world, merge)) {
                return false;
            }
            if (world.isFull() || !merge.findOrder(world)) {
                return markFault(start);
            }
            items++;
            return readSlots(world, world.addObject(kind, merge));
        }

        private boolean readParents(World world, Merge merge) {
            for (int i = 0; i < PARENTS; i++) {
                // Over the < or the , that stands here.
                at++;
                int start = at;
                if (!readNumber(false)) {
                    return false;
                }
                if (!world.hasObject(number) || world.kinds[number] == LAST || merge.tells(number)) {
                    return markFault(start);
                }
                merge.tellOneMore(number);
                if (!stands(',')) {
                    return true;
                }
            }
            return markFault(at);
        }

        private boolean readSlots(World world, int o) {
            for (int turn = 0; turn < LONGEST && stands(' '); turn++) {
                at++;
                if (at >= size || text[at] < 'a' || text[at] >= 'a' + SLOTS) {
                    return markFault(at);
                }
                int slot = text[at] - 'a';
                at++;
                if (!(stands(':') ? readMethod(world, o, slot) : readValue(world, o, slot))) {
                    return false;
                }
            }
            return true;
        }

        private boolean readValue(World world, int o, int slot) {
            if (!pass('=') || !readNumber(true)) {
                return false;
            }
            world.putValue(o, slot, number);
            return true;
        }

        private boolean readMethod(World world, int o, int slot) {
            // Over the : that stands here.
            at++;
            if (!digitStands()) {
                return markFault(at);
            }
            int function = text[at] - '0';
            at++;
            if (!pass('.') || !readNumber(true)) {
                return false;
            }
            world.putMethod(o, slot, function, number);
            return true;
        }

        /** Maybe a -, if it may be signed; one digit, or two if two stand there. */
        private boolean readNumber(boolean signed) {
            boolean negative = signed && stands('-');
            if (negative) {
                at++;
            }
            if (!digitStands()) {
                return markFault(at);
            }
            number = text[at] - '0';
            at++;
            if (digitStands()) {
                number = number * 10 + text[at] - '0';
                at++;
            }
            if (negative) {
                number = -number;
            }
            return true;
        }

        private boolean pass(int letter) {
            if (!stands(letter)) {
                return markFault(at);
            }
            at++;
            return true;
        }

        private boolean stands(int letter) {
            return at < size && text[at] == letter;
        }

        private boolean digitStands() {
            return at < size && text[at] >= '0' && text[at] <= '9';
        }

        private boolean markFault(int place) {
            faultAt = place;
            return false;
        }
    }

    /** The WAYS that APPLY to a CALL, by SORT, as they stand. */
    private static final class Applying {
        final int[] sizes = new int[SORTS];
        private final int[] rows = new int[SORTS * WAYS];
        private final int[] fars = new int[WAYS];
        private final int[] nears = new int[WAYS];

        void find(World world, int generic, int a, int b) {
            Arrays.fill(sizes, 0);
            for (int way = 0; way < world.ways; way++) {
                int toP = world.distanceTo(a, world.wayPart(way, 1));
                int toQ = world.distanceTo(b, world.wayPart(way, 2));
                if (world.wayPart(way, 0) == generic && toP != NONE && toQ != NONE) {
                    fars[way] = toP + toQ;
                    nears[way] = toP;
                    insert(way, world.wayPart(way, 3));
                }
            }
        }

        /** The way is the latest made so far, so it goes ahead of its likes. */
        private void insert(int way, int sort) {
            int base = sort * WAYS;
            int place = sizes[sort];
            while (place > 0 && !standsBefore(rows[base + place - 1], way)) {
                rows[base + place] = rows[base + place - 1];
                place--;
            }
            rows[base + place] = way;
            sizes[sort]++;
        }

        private boolean standsBefore(int one, int other) {
            if (fars[one] != fars[other]) {
                return fars[one] < fars[other];
            }
            return nears[one] < nears[other];
        }

        int wayAt(int sort, int i) {
            return rows[sort * WAYS + i];
        }

        boolean isTied() {
            return sizes[MAIN] > 1 && fars[wayAt(MAIN, 0)] == fars[wayAt(MAIN, 1)];
        }
    }

    /**
     * Carries out SENDS and CALLS in its world. What waits for what another one gives stands in
     * frames, not in open calls, since 200 METHODS may wait for one another.
     */
    private static final class Runner {
        static final int TRACED = 30;
        private static final int MOST_METHODS = 200;
        // A METHOD takes some five steps; so many are never needed.
        private static final int MOST_STEPS = 10000;

        private static final int FAILED = 1;
        private static final int ENDED = 2;

        // What the next step is.
        private static final int COMING = 0;
        private static final int RUNNING = 1;
        private static final int GIVING = 2;
        private static final int FAILING = 3;
        private static final int ENDING = 4;

        // What can be come to: WAYS by their SORTS (0 to 3), and these.
        private static final int BY_SLOT = 4;
        private static final int NO_ONE = 5;

        // A frame: what waits, and three numbers of it. Each METHOD leaves one at most; THE CORE
        // one more, as it is not come to again within itself.
        private static final int TWICE_WAITS = 0;
        private static final int SUM_WAITS = 1;
        private static final int GUARD_WAITS = 2;
        private static final int CORE_WAITS = 3;
        private static final int FRAME = 4;
        private static final int MOST_FRAMES = MOST_METHODS + 1;

        final World world = new World();
        final Applying applying = new Applying();
        final int[] traced = new int[TRACED];
        int waysRan;
        int ran;
        // What is come to comes with this, and gives this.
        int number;
        private int state;
        private int self;
        // What is come to, or, when a METHOD runs, its NEXT one.
        private int chain;
        private int slot;
        private int index;
        // The METHOD that runs.
        private int function;
        private int k;
        private final int[] frames = new int[MOST_FRAMES * FRAME];
        private int depth;
        private final int[] savedSorts = new int[SLOTS];
        private final int[] savedFunctions = new int[SLOTS];
        private final int[] savedNumbers = new int[SLOTS];

        /** METHODS of all that follows count together till the next act begins. */
        void beginAct() {
            ran = 0;
        }

        int sendSlot(int o, int name, int x) {
            comeNextTo(BY_SLOT, name, 0, x);
            return carryOut(o);
        }

        int callGeneric(int generic, int a, int b, int x) {
            applying.find(world, generic, a, b);
            waysRan = 0;
            comeNextTo(AROUND, 0, 0, x);
            return carryOut(a);
        }

        /** Only SLOTS of SELF itself are SET, so to put these back undoes the latest SEND or CALL. */
        void undo() {
            System.arraycopy(savedSorts, 0, world.slotSorts, self * SLOTS, SLOTS);
            System.arraycopy(savedFunctions, 0, world.slotFunctions, self * SLOTS, SLOTS);
            System.arraycopy(savedNumbers, 0, world.slotNumbers, self * SLOTS, SLOTS);
        }

        private void save() {
            System.arraycopy(world.slotSorts, self * SLOTS, savedSorts, 0, SLOTS);
            System.arraycopy(world.slotFunctions, self * SLOTS, savedFunctions, 0, SLOTS);
            System.arraycopy(world.slotNumbers, self * SLOTS, savedNumbers, 0, SLOTS);
        }

        private int carryOut(int o) {
            self = o;
            depth = 0;
            save();
            boolean more = true;
            for (int step = 0; step < MOST_STEPS && more; step++) {
                more = takeStep();
            }
            if (state == GIVING) {
                return GAVE;
            }
            undo();
            number = 0;
            return state == FAILING ? FAILED : ENDED;
        }

        /** Whether there is another step to take. */
        private boolean takeStep() {
            if (state == COMING) {
                if (chain == BY_SLOT) {
                    comeToSlot();
                } else {
                    comeToWay();
                }
            } else if (state == RUNNING) {
                run();
            } else if (state == ENDING || depth == 0) {
                return false;
            } else if (state == GIVING) {
                giveToFrame();
            } else {
                failFrame();
            }
            return true;
        }

        private void comeNextTo(int where, int name, int place, int x) {
            chain = where;
            slot = name;
            index = place;
            number = x;
            state = COMING;
        }

        private void give(int v) {
            number = v;
            state = GIVING;
        }

        private void comeToSlot() {
            int place = world.placeFrom(self, slot, index);
            if (place == NONE) {
                state = FAILING;
                return;
            }
            int found = world.orderAt(self, place) * SLOTS + slot;
            if (world.slotSorts[found] == World.VALUE) {
                give(world.slotNumbers[found]);
                return;
            }
            index = place + 1;
            startMethod(world.slotFunctions[found], world.slotNumbers[found]);
        }

        private void comeToWay() {
            if (chain != NO_ONE && index < applying.sizes[chain]) {
                startWay(applying.wayAt(chain, index));
            } else if (chain == AROUND && applying.sizes[MAIN] > 0) {
                leave(CORE_WAITS, number, BEFORE, 0);
                goOnInCore();
            } else {
                state = FAILING;
            }
        }

        private void startWay(int way) {
            if (ran < MOST_METHODS) {
                if (waysRan < TRACED) {
                    traced[waysRan] = way;
                }
                waysRan++;
            }
            if (chain == MAIN || chain == AROUND) {
                index++;
            } else {
                chain = NO_ONE;
            }
            startMethod(world.wayPart(way, 4), world.wayPart(way, 5));
        }

        private void startMethod(int itsFunction, int itsK) {
            if (ran >= MOST_METHODS) {
                state = ENDING;
                return;
            }
            ran++;
            function = itsFunction;
            k = itsK;
            state = RUNNING;
        }

        private void run() {
            switch (function) {
                case 0:
                    give(number + k);
                    break;
                case 1:
                    give(number * k);
                    break;
                case 2:
                    comeNextTo(chain, slot, index, number + k);
                    break;
                case 3:
                    leave(TWICE_WAITS, chain, slot, index);
                    comeNextTo(chain, slot, index, number);
                    break;
                case 4:
                    comeNextTo(BY_SLOT, Math.floorMod(k, SLOTS), 0, number);
                    break;
                case 5:
                    leave(SUM_WAITS, number, 0, 0);
                    comeNextTo(BY_SLOT, Math.floorMod(k, SLOTS), 0, 0);
                    break;
                case 6:
                    setOwn(Math.floorMod(k, SLOTS));
                    break;
                case 7:
                    comeNextTo(chain, slot, index, number);
                    if (number >= k) {
                        give(number);
                    }
                    break;
                case 8:
                    give(ran + number);
                    break;
                default:
                    leave(GUARD_WAITS, k, 0, 0);
                    comeNextTo(chain, slot, index, number);
                    break;
            }
        }

        private void setOwn(int name) {
            if (world.isOfKind(self, FIRM)) {
                state = FAILING;
                return;
            }
            world.putValue(self, name, number);
            give(number);
        }

        private void leave(int what, int a, int b, int c) {
            if (depth < MOST_FRAMES) {
                int base = depth * FRAME;
                frames[base] = what;
                frames[base + 1] = a;
                frames[base + 2] = b;
                frames[base + 3] = c;
                depth++;
            }
        }

        private void giveToFrame() {
            int base = (depth - 1) * FRAME;
            switch (frames[base]) {
                case TWICE_WAITS:
                    depth--;
                    comeNextTo(frames[base + 1], frames[base + 2], frames[base + 3], number);
                    break;
                case SUM_WAITS:
                    depth--;
                    give(frames[base + 1] + number);
                    break;
                case GUARD_WAITS:
                    depth--;
                    break;
                default:
                    if (frames[base + 2] == MAIN) {
                        frames[base + 1] = number;
                        frames[base + 2] = AFTER;
                        frames[base + 3] = applying.sizes[AFTER] - 1;
                    }
                    goOnInCore();
                    break;
            }
        }

        /** The frame of THE CORE: its x, or what MAIN gave; the SORT that is on; the next of it. */
        private void goOnInCore() {
            int base = (depth - 1) * FRAME;
            int next = frames[base + 3];
            if (frames[base + 2] == AFTER) {
                if (next < 0) {
                    depth--;
                    give(frames[base + 1]);
                } else {
                    frames[base + 3] = next - 1;
                    comeNextTo(AFTER, 0, next, frames[base + 1]);
                }
            } else if (next < applying.sizes[BEFORE]) {
                frames[base + 3] = next + 1;
                comeNextTo(BEFORE, 0, next, frames[base + 1]);
            } else {
                frames[base + 2] = MAIN;
                comeNextTo(MAIN, 0, 0, frames[base + 1]);
            }
        }

        private void failFrame() {
            depth--;
            int base = depth * FRAME;
            if (frames[base] == GUARD_WAITS) {
                give(frames[base + 1]);
            }
        }
    }
}
