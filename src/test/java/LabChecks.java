/** What the tests with answers reckoned by hand share: laboratories as they are needed, and ways to ask them. */
abstract class LabChecks {
    static final Class<?> ARGUMENT = IllegalArgumentException.class;
    static final Class<?> STATE = IllegalStateException.class;
    static final Class<?> INDEX = IndexOutOfBoundsException.class;

    static final int FIRST = 0;
    static final int NEXT = 1;
    static final int BEST = 2;
    static final int WORST = 3;
    static final int BUDDY = 4;
    static final int SLAB = 5;

    static final int LEAST = Integer.MIN_VALUE;
    static final int GREATEST = Integer.MAX_VALUE;
    static final int[] WRONG_SIZES = {0, -1, 301, LEAST, GREATEST};

    static void due(String what, Object want, Checks.Call call) {
        Checks.due(what, want, call);
    }

    static HeapwrightLab lab(int way, int step, int head, int... sizes) {
        HeapwrightLab x = new HeapwrightLab();
        x.reset(way, step, head);
        for (int size : sizes) {
            x.ask(size);
        }
        return x;
    }

    static HeapwrightLab without(HeapwrightLab x, int... names) {
        for (int name : names) {
            x.giveBack(name);
        }
        return x;
    }

    /** Holes of 100 at 0, of 50 at 110, of 70 at 170 and of 774 at 250; the hand of NEXT is 250. */
    static HeapwrightLab fourHoles(int way) {
        return without(lab(way, 1, 0, 100, 10, 50, 10, 70, 10), 0, 2, 4);
    }

    /** No hole at all, in each way, by names 0 to 3 and maybe more; the hand of NEXT is 0. */
    static HeapwrightLab filled(int way) {
        if (way == BUDDY) {
            return lab(way, 1, 0, 256, 256, 256, 256);
        }
        if (way == SLAB) {
            return lab(way, 1, 0, 256, 256, 256, 256);
        }
        return lab(way, 1, 0, 300, 300, 300, 124);
    }

    static HeapwrightLab withDeeds(HeapwrightLab x, int many) {
        while (x.deeds() + 1 < many) {
            x.open();
            x.close();
        }
        if (x.deeds() < many) {
            x.open();
        }
        return x;
    }

    static HeapwrightLab withNames(HeapwrightLab x, int many) {
        while (x.names() < many) {
            x.ask(1);
        }
        return x;
    }

    static void dueBlock(String what, HeapwrightLab x, int name, int place, int size, int room) {
        due(what + ": place of " + name, place, () -> x.place(name));
        due(what + ": size of " + name, size, () -> x.size(name));
        due(what + ": room of " + name, room, () -> x.room(name));
        due(what + ": there is " + name, place >= 0, () -> x.isThere(name));
    }

    static void dueCounts(String what, HeapwrightLab x, int looked, int split, int joined, int moved, int failed) {
        due(what + ": LOOKED", looked, () -> x.counted(0));
        due(what + ": SPLIT", split, () -> x.counted(1));
        due(what + ": JOINED", joined, () -> x.counted(2));
        due(what + ": MOVED", moved, () -> x.counted(3));
        due(what + ": FAILED", failed, () -> x.counted(4));
    }

    static void dueHoles(String what, HeapwrightLab x, int... placesAndSizes) {
        due(what + ": holes", placesAndSizes.length / 2, x::holes);
        for (int i = 0; i < placesAndSizes.length / 2; i++) {
            int hole = i;
            due(what + ": place of hole " + i, placesAndSizes[2 * i], () -> x.holePlace(hole));
            due(what + ": size of hole " + i, placesAndSizes[2 * i + 1], () -> x.holeSize(hole));
        }
    }

    static void dueBare(String what, HeapwrightLab x, int way) {
        due(what + ": way", way, x::way);
        due(what + ": names", 0, x::names);
        due(what + ": deeds", 0, x::deeds);
        due(what + ": arenas", 0, x::arenas);
        due(what + ": blocks", 0, x::blocks);
        due(what + ": hand", 0, x::hand);
        due(what + ": used", 0, x::used);
        due(what + ": wasted", 0, x::wasted);
        due(what + ": peak", 0, x::peak);
        due(what + ": a name", INDEX, () -> x.isThere(0));
        dueHoles(what, x, 0, 1024);
        dueCounts(what, x, 0, 0, 0, 0, 0);
        for (int each = 0; each < 6; each++) {
            int other = each;
            due(what + ": peak again", 0, () -> x.again(other, 5));
            due(what + ": holes again", 1, () -> x.again(other, 6));
        }
    }

    /** The call throws that, and all that can be seen is as it was. */
    static void dueRefused(String what, Class<?> exception, HeapwrightLab x, Checks.Call call) {
        String before = seen(x);
        due(what, exception, call);
        due(what + ": nothing is changed", before, () -> seen(x));
    }

    /** In few calls, as an object has 512 of them: the digest, and what it does not tell of. */
    private static String seen(HeapwrightLab x) {
        StringBuilder text = new StringBuilder();
        text.append(x.digest()).append(' ').append(x.greatest()).append(' ').append(x.broken());
        text.append(' ').append(x.again(NEXT, 0)).append(' ').append(x.again(BUDDY, 1)).append(' ').append(x.again(SLAB, 2));
        return text.toString();
    }
}
