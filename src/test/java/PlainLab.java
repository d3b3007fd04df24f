import java.util.ArrayList;
import java.util.List;

/** The face of the document over PlainMemory, with every question answered by doing it. */
final class PlainLab {
    private PlainMemory now = new PlainMemory(0, 4, 2);
    private final List<int[]> deeds = new ArrayList<>();

    int reset(int way, int step, int head) {
        if (way < 0 || way > 5 || !(step == 1 || step == 2 || step == 4 || step == 8) || head < 0 || head > 8) {
            throw new IllegalArgumentException();
        }
        int before = now.way;
        now = new PlainMemory(way, step, head);
        deeds.clear();
        return before;
    }

    int ask(int size) {
        checkSize(size);
        if (names() == 80 || deeds() == 150) {
            throw new IllegalStateException();
        }
        return perform(0, size, 0);
    }

    int giveBack(int name) {
        checkName(name);
        if (!now.isThere(name) || deeds() == 150) {
            throw new IllegalStateException();
        }
        return perform(1, name, 0);
    }

    int resize(int name, int size) {
        checkName(name);
        checkSize(size);
        if (!now.isThere(name) || deeds() == 150) {
            throw new IllegalStateException();
        }
        return perform(2, name, size);
    }

    int together() {
        if (now.way > 3 || deeds() == 150) {
            throw new IllegalStateException();
        }
        return perform(3, 0, 0);
    }

    int open() {
        if (arenas() == 8 || deeds() == 150) {
            throw new IllegalStateException();
        }
        return perform(4, 0, 0);
    }

    int close() {
        if (arenas() == 0 || deeds() == 150) {
            throw new IllegalStateException();
        }
        return perform(5, 0, 0);
    }

    int way() {
        return now.way;
    }

    int names() {
        return now.blocks.size();
    }

    int deeds() {
        return deeds.size();
    }

    int arenas() {
        return now.arenas.size();
    }

    boolean isThere(int name) {
        checkName(name);
        return now.isThere(name);
    }

    int place(int name) {
        checkName(name);
        return now.blocks.get(name).place;
    }

    int size(int name) {
        checkName(name);
        return now.blocks.get(name).size;
    }

    int room(int name) {
        checkName(name);
        return now.blocks.get(name).room;
    }

    int at(int unit) {
        checkIndex(unit, 1024);
        return now.owner[unit];
    }

    int blocks() {
        int there = 0;
        for (PlainMemory.Block block : now.blocks) {
            there += block.there() ? 1 : 0;
        }
        return there;
    }

    int holes() {
        return now.holes().size();
    }

    int holePlace(int hole) {
        checkIndex(hole, holes());
        return now.holes().get(hole)[0];
    }

    int holeSize(int hole) {
        checkIndex(hole, holes());
        return now.holes().get(hole)[1];
    }

    int pageClass(int page) {
        checkIndex(page, 8);
        return now.way == 5 ? now.pages[page] : -1;
    }

    int hand() {
        return now.hand;
    }

    int used() {
        return now.used();
    }

    int wasted() {
        int wasted = 0;
        for (PlainMemory.Block block : now.blocks) {
            wasted += block.there() ? block.room - block.size : 0;
        }
        return wasted;
    }

    int largest() {
        return now.largest();
    }

    double broken() {
        int all = 0;
        for (int[] hole : now.holes()) {
            all += hole[1];
        }
        return all == 0 ? 0.0 : (double) (all - now.largest()) / (double) all;
    }

    int counted(int what) {
        if (what < 0 || what > 4) {
            throw new IllegalArgumentException();
        }
        return now.counts[what];
    }

    int peak() {
        return now.peak;
    }

    int wouldBe(int size) {
        checkSize(size);
        PlainMemory other = copy();
        other.ask(size);
        return other.blocks.get(other.blocks.size() - 1).place;
    }

    int greatest() {
        int greatest = 0;
        for (int size = 1; size <= 300; size++) {
            if (wouldBe(size) != -1) {
                greatest = size;
            }
        }
        return greatest;
    }

    int again(int way, int what) {
        if (way < 0 || way > 5 || what < 0 || what > 7) {
            throw new IllegalArgumentException();
        }
        PlainMemory other = new PlainMemory(way, now.step, now.head, deeds);
        switch (what) {
            case 5:
                return other.peak;
            case 6:
                return other.holes().size();
            case 7:
                return other.largest();
            default:
                return other.counts[what];
        }
    }

    int bestWay() {
        int best = 0;
        for (int way = 1; way < 6; way++) {
            int more = again(way, 4) - again(best, 4);
            if (more < 0 || more == 0 && again(way, 5) < again(best, 5)) {
                best = way;
            }
        }
        return best;
    }

    int largestWithout(int name) {
        checkName(name);
        if (!now.isThere(name)) {
            throw new IllegalStateException();
        }
        PlainMemory other = copy();
        other.giveBack(name);
        return other.largest();
    }

    long digest() {
        List<Long> all = new ArrayList<>();
        int[] numbers = {way(), names(), deeds(), arenas(), blocks(), used(), wasted(), largest(), peak(), hand()};
        for (int number : numbers) {
            all.add((long) number);
        }
        for (int what = 0; what < 5; what++) {
            all.add((long) counted(what));
        }
        for (int name = 0; name < names(); name++) {
            all.add((long) place(name));
            all.add((long) size(name));
            all.add((long) room(name));
        }
        all.add((long) holes());
        for (int[] hole : now.holes()) {
            all.add((long) hole[0]);
            all.add((long) hole[1]);
        }
        for (int page = 0; page < 8; page++) {
            all.add((long) pageClass(page));
        }
        all.add((long) wouldBe(1));
        all.add((long) wouldBe(30));
        all.add((long) wouldBe(120));
        for (int way = 0; way < 6; way++) {
            all.add((long) again(way, 4));
            all.add((long) again(way, 5));
        }
        long d = 2657;
        for (long v : all) {
            d = d * 31 + v;
        }
        return d;
    }

    private PlainMemory copy() {
        return new PlainMemory(now);
    }

    private int perform(int kind, int first, int second) {
        int[] deed = {kind, first, second};
        deeds.add(deed);
        return now.perform(deed);
    }

    private void checkName(int name) {
        checkIndex(name, names());
    }

    private static void checkIndex(int index, int many) {
        if (index < 0 || index >= many) {
            throw new IndexOutOfBoundsException();
        }
    }

    private static void checkSize(int size) {
        if (size < 1 || size > 300) {
            throw new IllegalArgumentException();
        }
    }
}
