import java.util.ArrayList;
import java.util.Arrays;
import java.util.List;
import java.util.TreeMap;

/**
 * The memory of the document's terms, told as literally as it goes: a row of owners for all units,
 * holes of buddies that are really split and joined, pages with slots. It shares nothing with the
 * class, so that the two can be held against each other.
 */
final class PlainMemory {
    static final int LOOKED = 0;
    static final int SPLIT = 1;
    static final int JOINED = 2;
    static final int MOVED = 3;
    static final int FAILED = 4;

    static final class Block {
        int place = -1;
        int size = -1;
        int room = -1;

        boolean there() {
            return place >= 0;
        }
    }

    final int way;
    final int step;
    final int head;
    final List<Block> blocks = new ArrayList<>();
    final List<List<Integer>> arenas = new ArrayList<>();
    final int[] owner = new int[1024];
    final TreeMap<Integer, Integer> buddyHoles = new TreeMap<>();
    final int[] pages = new int[8];
    final int[] counts = new int[5];
    int hand = 0;
    int peak = 0;

    PlainMemory(int way, int step, int head) {
        this.way = way;
        this.step = step;
        this.head = head;
        Arrays.fill(owner, -1);
        buddyHoles.put(0, 1024);
    }

    PlainMemory(int way, int step, int head, List<int[]> deeds) {
        this(way, step, head);
        for (int[] deed : deeds) {
            perform(deed);
        }
    }

    PlainMemory(PlainMemory other) {
        this(other.way, other.step, other.head);
        for (int name = 0; name < other.blocks.size(); name++) {
            Block block = other.blocks.get(name);
            blocks.add(new Block());
            set(name, block.place, block.size, block.room);
        }
        other.arenas.forEach(arena -> arenas.add(new ArrayList<>(arena)));
        System.arraycopy(other.owner, 0, owner, 0, owner.length);
        buddyHoles.clear();
        buddyHoles.putAll(other.buddyHoles);
        System.arraycopy(other.pages, 0, pages, 0, pages.length);
        System.arraycopy(other.counts, 0, counts, 0, counts.length);
        hand = other.hand;
        peak = other.peak;
    }

    boolean isThere(int name) {
        return blocks.get(name).there();
    }

    int perform(int[] deed) {
        int answer = 0;
        switch (deed[0]) {
            case 0 -> answer = ask(deed[1]);
            case 1 -> answer = isThere(deed[1]) ? giveBack(deed[1]) : 0;
            case 2 -> answer = isThere(deed[1]) ? resize(deed[1], deed[2]) : 0;
            case 3 -> answer = way < 4 ? together() : 0;
            case 4 -> {
                arenas.add(new ArrayList<>());
                answer = arenas.size();
            }
            default -> answer = close();
        }
        peak = Math.max(peak, used());
        return answer;
    }

    int roomFor(int size) {
        int wanted = size + head;
        if (way < 4) {
            return leastMultiple(wanted, step);
        }
        int power = 8;
        while (power < wanted) {
            power *= 2;
        }
        return way == 4 || power <= 128 ? power : leastMultiple(wanted, 128);
    }

    static int leastMultiple(int number, int of) {
        int multiple = 0;
        while (multiple < number) {
            multiple += of;
        }
        return multiple;
    }

    int ask(int size) {
        int name = blocks.size();
        blocks.add(new Block());
        if (!arenas.isEmpty()) {
            arenas.get(arenas.size() - 1).add(name);
        }
        int place = take(name, roomFor(size));
        if (place < 0) {
            counts[FAILED]++;
        } else {
            set(name, place, size, roomFor(size));
        }
        return name;
    }

    void set(int name, int place, int size, int room) {
        Block block = blocks.get(name);
        block.place = place;
        block.size = size;
        block.room = room;
    }

    int giveBack(int name) {
        Block block = blocks.get(name);
        int room = block.room;
        free(block.place, room);
        set(name, -1, -1, -1);
        return room;
    }

    int resize(int name, int size) {
        Block block = blocks.get(name);
        int room = roomFor(size);
        int end = block.place + block.room;
        if (room == block.room) {
            block.size = size;
            return block.place;
        }
        if (way < 4 && room < block.room) {
            int tail = block.place + room;
            if (end < 1024 && owner[end] == -1) {
                counts[JOINED]++;
            }
            Arrays.fill(owner, tail, end, -1);
            set(name, block.place, size, room);
            return block.place;
        }
        if (way < 4) {
            int behind = freeFrom(end);
            int more = room - block.room;
            if (behind >= more) {
                if (behind > more) {
                    counts[SPLIT]++;
                }
                Arrays.fill(owner, end, end + more, name);
                set(name, block.place, size, room);
                return block.place;
            }
        }
        int place = take(name, room);
        if (place < 0) {
            counts[FAILED]++;
            return block.place;
        }
        counts[MOVED] += Math.min(size, block.size);
        free(block.place, block.room);
        set(name, place, size, room);
        return place;
    }

    int freeFrom(int place) {
        int free = 0;
        while (place + free < 1024 && owner[place + free] == -1) {
            free++;
        }
        return free;
    }

    int together() {
        int to = 0;
        int moved = 0;
        for (int unit = 0; unit < 1024; unit++) {
            int name = owner[unit];
            if (name == -1 || blocks.get(name).place != unit) {
                continue;
            }
            Block block = blocks.get(name);
            Arrays.fill(owner, unit, unit + block.room, -1);
            Arrays.fill(owner, to, to + block.room, name);
            if (to != unit) {
                moved += block.room;
            }
            block.place = to;
            to += block.room;
            unit = Math.max(unit, to - 1);
        }
        counts[MOVED] += moved;
        hand = to == 1024 ? 0 : to;
        return moved;
    }

    int close() {
        List<Integer> arena = arenas.remove(arenas.size() - 1);
        int given = 0;
        for (int i = arena.size() - 1; i >= 0; i--) {
            if (isThere(arena.get(i))) {
                giveBack(arena.get(i));
                given++;
            }
        }
        return given;
    }

    /** Takes room in the way of the memory, and counts; -1 if it could not be had. */
    int take(int name, int room) {
        int place = way < 4 ? takeFit(room) : way == 4 ? takeBuddy(room) : takeSlab(room);
        if (place >= 0) {
            Arrays.fill(owner, place, place + room, name);
        }
        return place;
    }

    int takeFit(int room) {
        List<int[]> ahead = new ArrayList<>();
        List<int[]> round = new ArrayList<>();
        for (int[] hole : holes()) {
            if (way == 1 && hole[0] + hole[1] - 1 < hand) {
                ahead.add(hole);
            } else {
                round.add(hole);
            }
        }
        round.addAll(ahead);
        int[] found = null;
        for (int[] hole : round) {
            counts[LOOKED]++;
            boolean enough = hole[1] >= room;
            if (enough && (found == null || way == 2 && hole[1] < found[1] || way == 3 && hole[1] > found[1])) {
                found = hole;
            }
            if (enough && way < 2) {
                break;
            }
        }
        if (found == null) {
            return -1;
        }
        if (found[1] != room) {
            counts[SPLIT]++;
        }
        if (way == 1) {
            hand = (found[0] + room) % 1024;
        }
        return found[0];
    }

    int takeBuddy(int room) {
        int place = -1;
        for (int each : buddyHoles.keySet()) {
            counts[LOOKED]++;
            if (buddyHoles.get(each) >= room && (place < 0 || buddyHoles.get(each) < buddyHoles.get(place))) {
                place = each;
            }
        }
        if (place < 0) {
            return -1;
        }
        int units = buddyHoles.remove(place);
        while (units > room) {
            units /= 2;
            buddyHoles.put(place + units, units);
            counts[SPLIT]++;
        }
        return place;
    }

    int takeSlab(int room) {
        if (room > 128) {
            return takePages(room / 128);
        }
        for (int page = 0; page < 8; page++) {
            if (pages[page] != room) {
                continue;
            }
            counts[LOOKED]++;
            for (int slot = page * 128; slot < page * 128 + 128; slot += room) {
                if (owner[slot] == -1) {
                    return slot;
                }
            }
        }
        for (int page = 0; page < 8; page++) {
            if (pages[page] == 0) {
                pages[page] = room;
                if (room < 128) {
                    counts[SPLIT]++;
                }
                return page * 128;
            }
        }
        return -1;
    }

    int takePages(int many) {
        for (int page = 0; page + many <= 8; page++) {
            boolean free = true;
            for (int i = page; i < page + many; i++) {
                free = free && pages[i] == 0;
            }
            if (free) {
                Arrays.fill(pages, page, page + many, -1);
                return page * 128;
            }
        }
        return -1;
    }

    void free(int place, int room) {
        if (way < 4) {
            if (place > 0 && owner[place - 1] == -1) {
                counts[JOINED]++;
            }
            if (place + room < 1024 && owner[place + room] == -1) {
                counts[JOINED]++;
            }
        }
        Arrays.fill(owner, place, place + room, -1);
        if (way == 4) {
            freeBuddy(place, room);
        }
        if (way == 5) {
            freeSlab(place, room);
        }
    }

    void freeBuddy(int place, int room) {
        int units = room;
        while (units < 1024) {
            int other = place % (2 * units) == 0 ? place + units : place - units;
            if (buddyHoles.getOrDefault(other, 0) != units) {
                break;
            }
            buddyHoles.remove(other);
            counts[JOINED]++;
            place = Math.min(place, other);
            units *= 2;
        }
        buddyHoles.put(place, units);
    }

    void freeSlab(int place, int room) {
        int page = place / 128;
        if (room > 128) {
            Arrays.fill(pages, page, page + room / 128, 0);
            return;
        }
        for (int unit = page * 128; unit < page * 128 + 128; unit++) {
            if (owner[unit] != -1) {
                return;
            }
        }
        if (pages[page] < 128) {
            counts[JOINED]++;
        }
        pages[page] = 0;
    }

    /** Each hole's place and units, by their places. */
    List<int[]> holes() {
        List<int[]> found = new ArrayList<>();
        if (way == 4) {
            buddyHoles.forEach((place, units) -> found.add(new int[] {place, units}));
            return found;
        }
        if (way == 5) {
            return slabHoles();
        }
        for (int unit = 0; unit < 1024; unit++) {
            int free = freeFrom(unit);
            if (free > 0) {
                found.add(new int[] {unit, free});
                unit += free;
            }
        }
        return found;
    }

    List<int[]> slabHoles() {
        List<int[]> found = new ArrayList<>();
        for (int page = 0; page < 8; page++) {
            if (pages[page] == 0) {
                int from = page;
                while (page + 1 < 8 && pages[page + 1] == 0) {
                    page++;
                }
                found.add(new int[] {from * 128, (page + 1 - from) * 128});
            } else if (pages[page] > 0) {
                for (int slot = page * 128; slot < page * 128 + 128; slot += pages[page]) {
                    if (owner[slot] == -1) {
                        found.add(new int[] {slot, pages[page]});
                    }
                }
            }
        }
        return found;
    }

    int used() {
        int used = 0;
        for (int unit = 0; unit < 1024; unit++) {
            used += owner[unit] == -1 ? 0 : 1;
        }
        return used;
    }

    int largest() {
        int largest = 0;
        for (int[] hole : holes()) {
            largest = Math.max(largest, hole[1]);
        }
        return largest;
    }
}
