import java.util.Arrays;

/**
 * A laboratory of allocators.
 *
 * Each way has a memory of its own, and all six follow the same trace: the one of the present way
 * at once, the others as far as they are behind when somebody asks what they would have done.
 * So nothing is ever done twice, and no call makes rows of its own.
 */
public final class HeapwrightLab {
    private static final int UNITS = 1024;
    private static final int MOST_NAMES = 80;
    private static final int MOST_DEEDS = 150;
    private static final int MOST_ARENAS = 8;
    private static final int MOST_SIZE = 300;
    private static final int MOST_HEAD = 8;

    private static final int FIRST = 0;
    private static final int NEXT = 1;
    private static final int BEST = 2;
    private static final int WORST = 3;
    private static final int BUDDY = 4;
    private static final int SLAB = 5;
    private static final int WAYS = 6;

    private static final int LOOKED = 0;
    private static final int SPLIT = 1;
    private static final int JOINED = 2;
    private static final int MOVED = 3;
    private static final int FAILED = 4;
    private static final int COUNTS = 5;
    private static final int PEAK = 5;
    private static final int HOLES = 6;
    private static final int LARGEST = 7;

    private static final int ASKING = 0;
    private static final int GIVING_BACK = 1;
    private static final int RESIZING = 2;
    private static final int PACKING = 3;
    private static final int OPENING = 4;
    private static final int CLOSING = 5;

    private static final int PAGE = 128;
    private static final int PAGES = 8;
    private static final int LEAST_PART = 8;

    /** Buddies and slabs have no hole below 8 units, and 81 blocks leave at most 82 gaps. */
    private static final int MOST_HOLES = UNITS / LEAST_PART;

    /** While a block moves, its new place stands under this name beside the old one. */
    private static final int NEWCOMER = MOST_NAMES;

    private final Trace trace = new Trace();
    private final Fits first = new Fits(FIRST);
    private final Fits next = new Fits(NEXT);
    private final Fits best = new Fits(BEST);
    private final Fits worst = new Fits(WORST);
    private final Buddies buddies = new Buddies();
    private final Slabs slabs = new Slabs();
    private int way = FIRST;

    /** Creates a laboratory with a bare memory. */
    public HeapwrightLab() {
    }

    // ---- deeds

    public int reset(int way, int step, int head) throws IllegalArgumentException {
        if (!isWay(way)) {
            throw new IllegalArgumentException("a way is 0 to 5");
        }
        if (step != 1 && step != 2 && step != 4 && step != 8) {
            throw new IllegalArgumentException("a step is 1, 2, 4 or 8");
        }
        if (head < 0 || head > MOST_HEAD) {
            throw new IllegalArgumentException("a head is 0 to 8");
        }
        int before = this.way;
        this.way = way;
        trace.forget();
        for (int each = 0; each < WAYS; each++) {
            memoryOf(each).beginAnew(step, head);
        }
        return before;
    }

    public int ask(int size) throws IllegalArgumentException, IllegalStateException {
        requireSize(size);
        if (present().namesGiven() >= MOST_NAMES) {
            throw new IllegalStateException("all names were given");
        }
        requireFreeDeed();
        return present().follow(trace.add(ASKING, 0, size)).namesGiven() - 1;
    }

    public int giveBack(int name) throws IndexOutOfBoundsException, IllegalStateException {
        requireName(name);
        requireThere(name);
        requireFreeDeed();
        int given = present().standing().roomOf(name);
        present().follow(trace.add(GIVING_BACK, name, 0));
        return given;
    }

    public int resize(int name, int size)
            throws IndexOutOfBoundsException, IllegalArgumentException, IllegalStateException {
        requireName(name);
        requireSize(size);
        requireThere(name);
        requireFreeDeed();
        return present().follow(trace.add(RESIZING, name, size)).standing().placeOf(name);
    }

    public int together() throws IllegalStateException {
        if (way == BUDDY || way == SLAB) {
            throw new IllegalStateException("this way never moves blocks together");
        }
        requireFreeDeed();
        int before = present().countOf(MOVED);
        return present().follow(trace.add(PACKING, 0, 0)).countOf(MOVED) - before;
    }

    public int open() throws IllegalStateException {
        if (present().arenasOpen() >= MOST_ARENAS) {
            throw new IllegalStateException("8 arenas are open");
        }
        requireFreeDeed();
        return present().follow(trace.add(OPENING, 0, 0)).arenasOpen();
    }

    public int close() throws IllegalStateException {
        if (present().arenasOpen() <= 0) {
            throw new IllegalStateException("no arena is open");
        }
        requireFreeDeed();
        int before = present().standing().howMany();
        return before - present().follow(trace.add(CLOSING, 0, 0)).standing().howMany();
    }

    public int way() {
        return way;
    }

    public int names() {
        return present().namesGiven();
    }

    public int deeds() {
        return trace.length();
    }

    public int arenas() {
        return present().arenasOpen();
    }

    // ---- where everything is

    public boolean isThere(int name) throws IndexOutOfBoundsException {
        requireName(name);
        return present().standing().has(name);
    }

    public int place(int name) throws IndexOutOfBoundsException {
        requireName(name);
        return present().standing().placeOf(name);
    }

    public int size(int name) throws IndexOutOfBoundsException {
        requireName(name);
        return present().standing().sizeOf(name);
    }

    public int room(int name) throws IndexOutOfBoundsException {
        requireName(name);
        return present().standing().roomOf(name);
    }

    public int at(int unit) throws IndexOutOfBoundsException {
        if (unit < 0 || unit >= UNITS) {
            throw new IndexOutOfBoundsException("no such unit");
        }
        return present().standing().nameOver(unit);
    }

    public int blocks() {
        return present().standing().howMany();
    }

    public int holes() {
        return present().gaps().howMany();
    }

    public int holePlace(int hole) throws IndexOutOfBoundsException {
        requireHole(hole);
        return present().gaps().placeOf(hole);
    }

    public int holeSize(int hole) throws IndexOutOfBoundsException {
        requireHole(hole);
        return present().gaps().sizeOf(hole);
    }

    public int pageClass(int page) throws IndexOutOfBoundsException {
        if (page < 0 || page >= PAGES) {
            throw new IndexOutOfBoundsException("no such page");
        }
        return present().classOf(page);
    }

    public int hand() {
        return present().handPlace();
    }

    // ---- counts

    public int used() {
        return present().standing().allRooms();
    }

    public int wasted() {
        return present().standing().allRooms() - present().standing().allSizes();
    }

    public int largest() {
        return present().gaps().largestSize();
    }

    public double broken() {
        int free = UNITS - present().standing().allRooms();
        if (free <= 0) {
            return 0;
        }
        return (double) (free - present().gaps().largestSize()) / free;
    }

    public int counted(int what) throws IllegalArgumentException {
        if (what < LOOKED || what > FAILED) {
            throw new IllegalArgumentException("0 to 4 are counted");
        }
        return present().countOf(what);
    }

    public int peak() {
        return present().countOf(PEAK);
    }

    // ---- what would be (nothing is changed, nor counted)

    public int wouldBe(int size) throws IllegalArgumentException {
        requireSize(size);
        return present().placeFor(size);
    }

    public int greatest() {
        return present().greatestSize();
    }

    public int again(int way, int what) throws IllegalArgumentException {
        if (!isWay(way)) {
            throw new IllegalArgumentException("a way is 0 to 5");
        }
        if (what < LOOKED || what > LARGEST) {
            throw new IllegalArgumentException("0 to 7 can be told");
        }
        return memoryOf(way).follow(trace).countOf(what);
    }

    public int bestWay() {
        int found = FIRST;
        for (int each = FIRST + 1; each < WAYS; each++) {
            if (isBetter(memoryOf(each).follow(trace), memoryOf(found).follow(trace))) {
                found = each;
            }
        }
        return found;
    }

    public int largestWithout(int name) throws IndexOutOfBoundsException, IllegalStateException {
        requireName(name);
        requireThere(name);
        return present().largestIfGone(name);
    }

    public long digest() {
        Memory memory = present();
        long d = 2657;
        d = d * 31 + way;
        d = d * 31 + memory.namesGiven();
        d = d * 31 + trace.length();
        d = d * 31 + memory.arenasOpen();
        d = d * 31 + memory.standing().howMany();
        d = d * 31 + used();
        d = d * 31 + wasted();
        d = d * 31 + largest();
        d = d * 31 + peak();
        d = d * 31 + memory.handPlace();
        for (int what = LOOKED; what <= FAILED; what++) {
            d = d * 31 + memory.countOf(what);
        }
        d = withEverything(d, memory);
        d = d * 31 + memory.placeFor(1);
        d = d * 31 + memory.placeFor(30);
        d = d * 31 + memory.placeFor(120);
        for (int each = 0; each < WAYS; each++) {
            Memory other = memoryOf(each).follow(trace);
            d = d * 31 + other.countOf(FAILED);
            d = d * 31 + other.countOf(PEAK);
        }
        return d;
    }

    private static long withEverything(long start, Memory memory) {
        long d = start;
        Blocks blocks = memory.standing();
        for (int name = 0; name < memory.namesGiven(); name++) {
            d = d * 31 + blocks.placeOf(name);
            d = d * 31 + blocks.sizeOf(name);
            d = d * 31 + blocks.roomOf(name);
        }
        Holes holes = memory.gaps();
        d = d * 31 + holes.howMany();
        for (int hole = 0; hole < holes.howMany(); hole++) {
            d = d * 31 + holes.placeOf(hole);
            d = d * 31 + holes.sizeOf(hole);
        }
        for (int page = 0; page < PAGES; page++) {
            d = d * 31 + memory.classOf(page);
        }
        return d;
    }

    private static boolean isWay(int number) {
        return number >= 0 && number < WAYS;
    }

    private static boolean isBetter(Memory one, Memory other) {
        if (one.countOf(FAILED) != other.countOf(FAILED)) {
            return one.countOf(FAILED) < other.countOf(FAILED);
        }
        return one.countOf(PEAK) < other.countOf(PEAK);
    }

    private static void requireSize(int size) throws IllegalArgumentException {
        if (size < 1 || size > MOST_SIZE) {
            throw new IllegalArgumentException("a size is 1 to 300");
        }
    }

    private void requireName(int name) throws IndexOutOfBoundsException {
        if (name < 0 || name >= present().namesGiven()) {
            throw new IndexOutOfBoundsException("no such name");
        }
    }

    private void requireHole(int hole) throws IndexOutOfBoundsException {
        if (hole < 0 || hole >= present().gaps().howMany()) {
            throw new IndexOutOfBoundsException("no such hole");
        }
    }

    private void requireThere(int name) throws IllegalStateException {
        if (!present().standing().has(name)) {
            throw new IllegalStateException("the block is not there");
        }
    }

    private void requireFreeDeed() throws IllegalStateException {
        if (trace.length() >= MOST_DEEDS) {
            throw new IllegalStateException("the trace is full");
        }
    }

    private Memory present() {
        return memoryOf(way);
    }

    private Memory memoryOf(int number) {
        switch (number) {
            case FIRST:
                return first;
            case NEXT:
                return next;
            case BEST:
                return best;
            case WORST:
                return worst;
            case BUDDY:
                return buddies;
            default:
                return slabs;
        }
    }

    /** All deeds since the beginning. */
    private static final class Trace {
        private final int[] kinds = new int[MOST_DEEDS];
        private final int[] names = new int[MOST_DEEDS];
        private final int[] sizes = new int[MOST_DEEDS];
        private int length;

        void forget() {
            length = 0;
        }

        Trace add(int kind, int name, int size) {
            if (length < MOST_DEEDS) {
                kinds[length] = kind;
                names[length] = name;
                sizes[length] = size;
                length++;
            }
            return this;
        }

        int length() {
            return length;
        }

        int kindOf(int deed) {
            return isDeed(deed) ? kinds[deed] : -1;
        }

        int nameOf(int deed) {
            return isDeed(deed) ? names[deed] : -1;
        }

        int sizeOf(int deed) {
            return isDeed(deed) ? sizes[deed] : -1;
        }

        private boolean isDeed(int deed) {
            return deed >= 0 && deed < length;
        }
    }

    /** The blocks that are there, by their names and by their places. */
    private static final class Blocks {
        private final int[] places = new int[MOST_NAMES + 1];
        private final int[] sizes = new int[MOST_NAMES + 1];
        /** 0 tells that the block is not there, as no block has so little room. */
        private final int[] rooms = new int[MOST_NAMES + 1];
        private final int[] byPlace = new int[MOST_NAMES + 1];
        private int count;
        private int roomsTogether;

        void removeAll() {
            Arrays.fill(rooms, 0);
            count = 0;
            roomsTogether = 0;
        }

        boolean has(int name) {
            return name >= 0 && name < rooms.length && rooms[name] > 0;
        }

        int placeOf(int name) {
            return has(name) ? places[name] : -1;
        }

        int sizeOf(int name) {
            return has(name) ? sizes[name] : -1;
        }

        int roomOf(int name) {
            return has(name) ? rooms[name] : -1;
        }

        int endOf(int name) {
            return has(name) ? places[name] + rooms[name] : -1;
        }

        int howMany() {
            return count;
        }

        int inOrder(int index) {
            return index >= 0 && index < count ? byPlace[index] : -1;
        }

        int allRooms() {
            return roomsTogether;
        }

        int allSizes() {
            int sum = 0;
            for (int i = 0; i < count; i++) {
                sum += sizeOf(byPlace[i]);
            }
            return sum;
        }

        int nameOver(int unit) {
            for (int i = 0; i < count; i++) {
                int name = byPlace[i];
                if (placeOf(name) <= unit && unit < endOf(name)) {
                    return name;
                }
            }
            return -1;
        }

        void put(int name, int place, int size, int room) {
            if (name < 0 || name >= rooms.length || has(name) || count >= byPlace.length) {
                return;
            }
            int index = count;
            for (; index > 0 && placeOf(byPlace[index - 1]) > place; index--) {
                byPlace[index] = byPlace[index - 1];
            }
            byPlace[index] = name;
            count++;
            places[name] = place;
            sizes[name] = size;
            rooms[name] = room;
            roomsTogether += room;
        }

        void remove(int name) {
            if (!has(name)) {
                return;
            }
            for (int i = indexOf(name); i < count - 1; i++) {
                byPlace[i] = byPlace[i + 1];
            }
            count--;
            roomsTogether -= rooms[name];
            rooms[name] = 0;
        }

        /** Gives the block of one name, which is there, to another, which is not. */
        void rename(int from, int to) {
            if (!has(from) || has(to) || to < 0 || to >= rooms.length) {
                return;
            }
            byPlace[indexOf(from)] = to;
            places[to] = places[from];
            sizes[to] = sizes[from];
            rooms[to] = rooms[from];
            rooms[from] = 0;
        }

        void setSize(int name, int size) {
            if (has(name)) {
                sizes[name] = size;
            }
        }

        void setRoom(int name, int room) {
            if (has(name)) {
                roomsTogether += room - rooms[name];
                rooms[name] = room;
            }
        }

        /** Whoever moves a block keeps the order of the places. */
        void setPlace(int name, int place) {
            if (has(name)) {
                places[name] = place;
            }
        }

        private int indexOf(int name) {
            for (int i = 0; i < count - 1; i++) {
                if (byPlace[i] == name) {
                    return i;
                }
            }
            return count > 0 ? count - 1 : 0;
        }
    }

    /** The holes by their places; a bare memory is one hole in each way. */
    private static final class Holes {
        private final int[] places = new int[MOST_HOLES];
        private final int[] sizes = new int[MOST_HOLES];
        private int count = 1;

        Holes() {
            sizes[0] = UNITS;
        }

        void removeAll() {
            count = 0;
        }

        void add(int place, int size) {
            if (count < MOST_HOLES) {
                places[count] = place;
                sizes[count] = size;
                count++;
            }
        }

        int howMany() {
            return count;
        }

        int placeOf(int hole) {
            return hole >= 0 && hole < count ? places[hole] : -1;
        }

        int sizeOf(int hole) {
            return hole >= 0 && hole < count ? sizes[hole] : 0;
        }

        int largestSize() {
            int largest = 0;
            for (int i = 0; i < count; i++) {
                largest = Math.max(largest, sizes[i]);
            }
            return largest;
        }

        /** The first hole that has a unit at the place or behind it; -1 if none has. */
        int firstReaching(int place) {
            for (int i = 0; i < count; i++) {
                if (places[i] + sizes[i] > place) {
                    return i;
                }
            }
            return -1;
        }

        int firstOfSize(int size) {
            for (int i = 0; i < count; i++) {
                if (sizes[i] == size) {
                    return i;
                }
            }
            return -1;
        }

        int firstWith(int room) {
            for (int i = 0; i < count; i++) {
                if (sizes[i] >= room) {
                    return i;
                }
            }
            return -1;
        }

        int tightestWith(int room) {
            int found = -1;
            for (int i = 0; i < count; i++) {
                if (sizes[i] >= room && (found < 0 || sizes[i] < sizes[found])) {
                    found = i;
                }
            }
            return found;
        }

        int widestWith(int room) {
            int found = -1;
            for (int i = 0; i < count; i++) {
                if (sizes[i] >= room && (found < 0 || sizes[i] > sizes[found])) {
                    found = i;
                }
            }
            return found;
        }
    }

    /** A memory in one way, which does the deeds of a trace one after the other. */
    private abstract static class Memory {
        final Blocks blocks = new Blocks();
        final Holes holes = new Holes();
        final int way;
        int step = 4;
        int head = 2;
        int hand;
        /** How many holes or pages the last search came to. */
        int seen;
        private final int[] counts = new int[COUNTS];
        /**
         * How many arenas were open as a name was given. That is enough to tell to which arena it
         * belongs: none of an arena's blocks outlives it, so those of one depth are all of one.
         */
        private final int[] depths = new int[MOST_NAMES];
        private int names;
        private int arenas;
        private int peak;
        private int done;

        Memory(int way) {
            this.way = way;
        }

        abstract int roomFor(int size);

        /** The hole that is taken for a room, -1 without any; tells in seen what was looked at. */
        abstract int search(int room);

        /** How many splits make a room out of a hole. */
        abstract int splits(int whole, int room);

        /** Cuts what is free from one place up to another into holes. */
        abstract void addGap(int from, int to);

        /** How many were joined as the room at the place, which is in a hole now, was given back. */
        int joins(int place, int room) {
            return splits(holes.sizeOf(holes.firstReaching(place)), room);
        }

        /** Whether a block could be given another room where it is; if so, it has that now. */
        boolean stretches(int name, int room) {
            return false;
        }

        void pack() {
        }

        void sortPages() {
        }

        int classOf(int page) {
            return -1;
        }

        final void beginAnew(int newStep, int newHead) {
            step = newStep;
            head = newHead;
            hand = 0;
            names = 0;
            arenas = 0;
            peak = 0;
            done = 0;
            Arrays.fill(counts, 0);
            blocks.removeAll();
            layOut();
        }

        /** Does the deeds that are still to be done, and answers this memory. */
        final Memory follow(Trace trace) {
            for (int deed = done; deed < trace.length(); deed++) {
                switch (trace.kindOf(deed)) {
                    case ASKING:
                        welcome(trace.sizeOf(deed));
                        break;
                    case GIVING_BACK:
                        release(trace.nameOf(deed));
                        break;
                    case RESIZING:
                        resettle(trace.nameOf(deed), trace.sizeOf(deed));
                        break;
                    case PACKING:
                        pack();
                        break;
                    case OPENING:
                        arenas++;
                        break;
                    case CLOSING:
                        leaveArena();
                        break;
                    default:
                        break;
                }
                peak = Math.max(peak, blocks.allRooms());
            }
            done = trace.length();
            return this;
        }

        final Blocks standing() {
            return blocks;
        }

        final Holes gaps() {
            return holes;
        }

        final int namesGiven() {
            return names;
        }

        final int arenasOpen() {
            return arenas;
        }

        final int handPlace() {
            return hand;
        }

        final int countOf(int what) {
            switch (what) {
                case PEAK:
                    return peak;
                case HOLES:
                    return holes.howMany();
                case LARGEST:
                    return holes.largestSize();
                default:
                    return what >= 0 && what < COUNTS ? counts[what] : 0;
            }
        }

        final int placeFor(int size) {
            return holes.placeOf(search(roomFor(size)));
        }

        /** Slabs may have a place for a size and none for a smaller one, so it is sought from above. */
        final int greatestSize() {
            int widest = holes.largestSize();
            for (int size = MOST_SIZE; size >= 1; size--) {
                if (roomFor(size) <= widest && placeFor(size) >= 0) {
                    return size;
                }
            }
            return 0;
        }

        final int largestIfGone(int name) {
            int place = blocks.placeOf(name);
            int size = blocks.sizeOf(name);
            int room = blocks.roomOf(name);
            blocks.remove(name);
            layOut();
            int largest = holes.largestSize();
            blocks.put(name, place, size, room);
            layOut();
            return largest;
        }

        final void count(int what, int more) {
            if (what >= 0 && what < COUNTS) {
                counts[what] += more;
            }
        }

        final void handBehind(int end) {
            hand = end < UNITS ? end : 0;
        }

        /** In each way the holes follow from the blocks, so they are never kept by themselves. */
        final void layOut() {
            sortPages();
            holes.removeAll();
            int from = 0;
            for (int i = 0; i < blocks.howMany(); i++) {
                int name = blocks.inOrder(i);
                addGap(from, blocks.placeOf(name));
                from = blocks.endOf(name);
            }
            addGap(from, UNITS);
        }

        private void welcome(int size) {
            if (names >= MOST_NAMES) {
                return;
            }
            int name = names;
            depths[name] = arenas;
            names++;
            settle(name, size, roomFor(size));
        }

        /** Takes a block, or counts that it could not be had. */
        private boolean settle(int name, int size, int room) {
            int hole = search(room);
            count(LOOKED, seen);
            if (hole < 0) {
                count(FAILED, 1);
                return false;
            }
            int place = holes.placeOf(hole);
            count(SPLIT, splits(holes.sizeOf(hole), room));
            blocks.put(name, place, size, room);
            layOut();
            if (way == NEXT) {
                handBehind(place + room);
            }
            return true;
        }

        private void release(int name) {
            if (!blocks.has(name)) {
                return;
            }
            int place = blocks.placeOf(name);
            int room = blocks.roomOf(name);
            blocks.remove(name);
            layOut();
            count(JOINED, joins(place, room));
        }

        private void resettle(int name, int size) {
            if (!blocks.has(name)) {
                return;
            }
            int room = roomFor(size);
            if (room == blocks.roomOf(name) || stretches(name, room)) {
                blocks.setSize(name, size);
                return;
            }
            int less = Math.min(size, blocks.sizeOf(name));
            if (settle(NEWCOMER, size, room)) {
                release(name);
                blocks.rename(NEWCOMER, name);
                count(MOVED, less);
            }
        }

        private void leaveArena() {
            for (int name = names - 1; name >= 0; name--) {
                if (depths[name] == arenas) {
                    release(name);
                }
            }
            arenas--;
        }
    }

    /** The ways FIRST, NEXT, BEST and WORST. */
    private static final class Fits extends Memory {
        Fits(int way) {
            super(way);
        }

        int roomFor(int size) {
            return madeUp(size + head, step);
        }

        int search(int room) {
            seen = holes.howMany();
            switch (way) {
                case FIRST:
                    return searchRound(0, room);
                case NEXT:
                    return searchRound(Math.max(holes.firstReaching(hand), 0), room);
                case BEST:
                    return holes.tightestWith(room);
                default:
                    return holes.widestWith(room);
            }
        }

        int splits(int whole, int room) {
            return whole > room ? 1 : 0;
        }

        void addGap(int from, int to) {
            if (from < to) {
                holes.add(from, to - from);
            }
        }

        int joins(int place, int room) {
            int hole = holes.firstReaching(place);
            int joined = 0;
            if (holes.placeOf(hole) < place) {
                joined++;
            }
            if (holes.placeOf(hole) + holes.sizeOf(hole) > place + room) {
                joined++;
            }
            return joined;
        }

        boolean stretches(int name, int room) {
            int end = blocks.endOf(name);
            int more = room - blocks.roomOf(name);
            if (more < 0) {
                blocks.setRoom(name, room);
                layOut();
                count(JOINED, joins(end + more, -more));
                return true;
            }
            int hole = holes.firstReaching(end);
            if (holes.placeOf(hole) != end || holes.sizeOf(hole) < more) {
                return false;
            }
            count(SPLIT, splits(holes.sizeOf(hole), more));
            blocks.setRoom(name, room);
            layOut();
            return true;
        }

        void pack() {
            int to = 0;
            for (int i = 0; i < blocks.howMany(); i++) {
                int name = blocks.inOrder(i);
                if (blocks.placeOf(name) != to) {
                    blocks.setPlace(name, to);
                    count(MOVED, blocks.roomOf(name));
                }
                to += blocks.roomOf(name);
            }
            handBehind(to);
            layOut();
        }

        private int searchRound(int start, int room) {
            int all = holes.howMany();
            for (int i = 0; i < all; i++) {
                int hole = start + i < all ? start + i : start + i - all;
                if (holes.sizeOf(hole) >= room) {
                    seen = i + 1;
                    return hole;
                }
            }
            return -1;
        }
    }

    /** The way BUDDY. */
    private static final class Buddies extends Memory {
        Buddies() {
            super(BUDDY);
        }

        int roomFor(int size) {
            for (int part = LEAST_PART; part < UNITS; part *= 2) {
                if (part >= size + head) {
                    return part;
                }
            }
            return UNITS;
        }

        int search(int room) {
            seen = holes.howMany();
            return holes.tightestWith(room);
        }

        int splits(int whole, int room) {
            int halvings = 0;
            for (int half = whole / 2; half > 0 && half >= room; half /= 2) {
                halvings++;
            }
            return halvings;
        }

        /** All halves that can be joined are joined, so each hole is as large as its place lets it. */
        void addGap(int from, int to) {
            int place = from;
            for (int i = 0; i < MOST_HOLES && place < to; i++) {
                int part = largestPart(place, to);
                holes.add(place, part);
                place += part;
            }
        }

        private static int largestPart(int place, int to) {
            for (int part = UNITS; part > LEAST_PART; part /= 2) {
                if (place % part == 0 && part <= to - place) {
                    return part;
                }
            }
            return LEAST_PART;
        }
    }

    /** The way SLAB. */
    private static final class Slabs extends Memory {
        private final int[] pages = new int[PAGES];

        Slabs() {
            super(SLAB);
        }

        int roomFor(int size) {
            for (int slot = LEAST_PART; slot <= PAGE; slot *= 2) {
                if (slot >= size + head) {
                    return slot;
                }
            }
            return madeUp(size + head, PAGE);
        }

        int search(int room) {
            // Below the class 128 only free slots are so small, and a page of it is never left free.
            int slot = room < PAGE ? holes.firstOfSize(room) : -1;
            if (slot >= 0) {
                seen = pagesOf(room, holes.placeOf(slot));
                return slot;
            }
            seen = room <= PAGE ? pagesOf(room, UNITS) : 0;
            return holes.firstWith(Math.max(room, PAGE));
        }

        int splits(int whole, int room) {
            return room < PAGE && whole >= PAGE ? 1 : 0;
        }

        void addGap(int from, int to) {
            int place = from;
            for (int i = 0; i < MOST_HOLES && place < to; i++) {
                int part;
                if (place % PAGE == 0 && to - place >= PAGE) {
                    part = (to - place) / PAGE * PAGE;
                } else {
                    part = Math.max(classOf(place / PAGE), LEAST_PART);
                }
                holes.add(place, part);
                place += part;
            }
        }

        void sortPages() {
            Arrays.fill(pages, 0);
            for (int i = 0; i < blocks.howMany(); i++) {
                int name = blocks.inOrder(i);
                int kind = blocks.roomOf(name) <= PAGE ? blocks.roomOf(name) : -1;
                int from = Math.max(blocks.placeOf(name) / PAGE, 0);
                for (int page = from; page < PAGES && page * PAGE < blocks.endOf(name); page++) {
                    pages[page] = kind;
                }
            }
        }

        int classOf(int page) {
            return page >= 0 && page < PAGES ? pages[page] : -1;
        }

        private int pagesOf(int kind, int lastPlace) {
            int found = 0;
            for (int page = 0; page < PAGES && page * PAGE <= lastPlace; page++) {
                if (pages[page] == kind) {
                    found++;
                }
            }
            return found;
        }
    }

    private static int madeUp(int number, int step) {
        return (number + step - 1) & -step;
    }
}
