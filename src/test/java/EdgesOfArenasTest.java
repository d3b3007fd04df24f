import java.util.Arrays;

/**
 * Section 5: "As it is closed, all its BLOCKS that are THERE are given back, the latest name first",
 * by what the calls answer behind a closing. No call tells the order by itself: whatever it is, as
 * many are JOINED, and peak() is reckoned behind the whole DEED.
 */
public final class EdgesOfArenasTest extends LabChecks {
    public static void main(String[] args) {
        Checks.sentence("all its BLOCKS that are THERE are given back: close()", EdgesOfArenasTest::given);
        Checks.sentence("... are given back: counted()", EdgesOfArenasTest::counts);
        Checks.sentence("... are given back: holes(), largest()", EdgesOfArenasTest::holesLeft);
        Checks.sentence("... are given back: again()", EdgesOfArenasTest::doneAgain);
        Checks.sentence("... are given back: digest()", EdgesOfArenasTest::digests);
        Checks.sentence("that are THERE: of what is done AGAIN", EdgesOfArenasTest::thereAgain);
        Checks.sentence("are given back, the latest name first: as by giveBack()", EdgesOfArenasTest::asByGiveBack);
        Checks.end();
    }

    /**
     * Behind it the outer arena is to be closed: of names 1 to 8 then 2 and 3 are gone, 8 was not to be
     * had, nor were 6 and 7 with the ways 4 and 5. Name 0 is of no arena.
     */
    private static HeapwrightLab aheadOfClosing(int way) {
        HeapwrightLab x = lab(way, 1, 0, 10);
        x.open();
        x.ask(20);
        x.ask(30);
        x.open();
        x.ask(5);
        x.close();
        x.ask(40);
        x.giveBack(2);
        for (int name = 5; name <= 8; name++) {
            x.ask(300);
        }
        x.resize(1, 25);
        return x;
    }

    private static HeapwrightLab closed(int way) {
        HeapwrightLab x = aheadOfClosing(way);
        x.close();
        return x;
    }

    private static void given() {
        for (int way = FIRST; way <= SLAB; way++) {
            HeapwrightLab x = aheadOfClosing(way);
            due("blocks ahead of it", way <= WORST ? 6 : 4, x::blocks);
            due("given back, way " + way, way <= WORST ? 5 : 3, x::close);
            due("blocks", 1, x::blocks);
            dueBlock("of no arena", x, 0, 0, 10, way <= WORST ? 10 : 16);
            for (int name = 1; name <= 8; name++) {
                dueBlock("given back", x, name, -1, -1, -1);
            }
            due("names", 9, x::names);
            due("deeds", 15, x::deeds);
            due("arenas", 0, x::arenas);
            due("used", way <= WORST ? 10 : 16, x::used);
            due("a unit", -1, () -> x.at(25));
            due("the next name", 9, () -> x.ask(1));
        }
    }

    private static void counts() {
        for (int way = FIRST; way <= SLAB; way++) {
            HeapwrightLab ahead = aheadOfClosing(way);
            HeapwrightLab x = closed(way);
            int joined = way <= WORST ? 6 : way == BUDDY ? 1 : 2;
            due("JOINED by the closing, way " + way, ahead.counted(2) + joined, () -> x.counted(2));
            for (int number : new int[] {0, 1, 3, 4}) {
                due("none else, way " + way, ahead.counted(number), () -> x.counted(number));
            }
            due("the HAND stays, way " + way, way == NEXT ? 1000 : 0, x::hand);
            due("the peak stays, way " + way, ahead.peak(), x::peak);
        }
        dueCounts("FIRST", closed(FIRST), 13, 9, 7, 0, 1);
        dueCounts("BUDDY", closed(BUDDY), 39, 9, 3, 0, 3);
        dueCounts("SLAB", closed(SLAB), 1, 4, 3, 0, 3);
    }

    private static void holesLeft() {
        for (int way = FIRST; way <= WORST; way++) {
            HeapwrightLab x = closed(way);
            dueHoles("way " + way, x, 10, 1014);
            due("largest, way " + way, 1014, x::largest);
            due("broken, way " + way, 0.0, x::broken);
        }
        HeapwrightLab buddy = closed(BUDDY);
        dueHoles("BUDDY", buddy, 16, 16, 32, 32, 64, 64, 128, 128, 256, 256, 512, 512);
        due("BUDDY: largest", 512, buddy::largest);
        HeapwrightLab slab = closed(SLAB);
        dueHoles("SLAB", slab, 16, 16, 32, 16, 48, 16, 64, 16, 80, 16, 96, 16, 112, 16, 128, 896);
        due("SLAB: largest", 896, slab::largest);
        due("SLAB: the page of no arena", 16, () -> slab.pageClass(0));
        for (int page = 1; page <= 7; page++) {
            int free = page;
            due("SLAB: page " + page, 0, () -> slab.pageClass(free));
        }
    }

    private static void doneAgain() {
        int[] fit = {13, 9, 7, 0, 1, 975, 1, 1014};
        int[] buddy = {39, 9, 3, 0, 3, 624, 6, 512};
        int[] slab = {1, 4, 3, 0, 3, 496, 8, 896};
        for (int way = FIRST; way <= SLAB; way++) {
            HeapwrightLab x = closed(way);
            for (int what = 0; what <= 7; what++) {
                int number = what;
                due("FIRST, " + what, fit[what], () -> x.again(FIRST, number));
                due("BUDDY, " + what, buddy[what], () -> x.again(BUDDY, number));
                due("SLAB, " + what, slab[what], () -> x.again(SLAB, number));
            }
            for (int each = NEXT; each <= WORST; each++) {
                int other = each;
                due("JOINED, way " + each, 7, () -> x.again(other, 2));
                due("FAILED, way " + each, 1, () -> x.again(other, 4));
                due("peak, way " + each, 975, () -> x.again(other, 5));
                due("holes, way " + each, 1, () -> x.again(other, 6));
                due("largest, way " + each, 1014, () -> x.again(other, 7));
            }
            due("the best", FIRST, x::bestWay);
        }
    }

    private static long digestOf(int[]... parts) {
        long d = 2657;
        for (int[] part : parts) {
            for (int v : part) {
                d = d * 31 + v;
            }
        }
        return d;
    }

    private static void digests() {
        int[] noPages = {-1, -1, -1, -1, -1, -1, -1, -1};
        int[] gone = new int[8 * 3];
        Arrays.fill(gone, -1);
        int[] again = {1, 975, 1, 975, 1, 975, 1, 975, 3, 624, 3, 496};
        due("FIRST", digestOf(new int[] {0, 9, 15, 0, 1, 10, 0, 1014, 975, 0}, new int[] {13, 9, 7, 0, 1},
            new int[] {0, 10, 10}, gone, new int[] {1, 10, 1014}, noPages, new int[] {10, 10, 10}, again),
            closed(FIRST)::digest);
        due("BUDDY", digestOf(new int[] {4, 9, 15, 0, 1, 16, 6, 512, 624, 0}, new int[] {39, 9, 3, 0, 3},
            new int[] {0, 10, 16}, gone, new int[] {6, 16, 16, 32, 32, 64, 64, 128, 128, 256, 256, 512, 512},
            noPages, new int[] {16, 32, 128}, again),
            closed(BUDDY)::digest);
        due("SLAB", digestOf(new int[] {5, 9, 15, 0, 1, 16, 6, 896, 496, 0}, new int[] {1, 4, 3, 0, 3},
            new int[] {0, 10, 16}, gone,
            new int[] {8, 16, 16, 32, 16, 48, 16, 64, 16, 80, 16, 96, 16, 112, 16, 128, 896},
            new int[] {16, 0, 0, 0, 0, 0, 0, 0}, new int[] {128, 128, 128}, again),
            closed(SLAB)::digest);
    }

    private static void thereAgain() {
        HeapwrightLab buddy = lab(BUDDY, 1, 0, 300, 300);
        buddy.open();
        buddy.ask(300);
        due("not to be had with BUDDY", 0, buddy::close);
        due("it was with FIRST", 900, () -> buddy.again(FIRST, 5));
        due("and is given back there", 424, () -> buddy.again(FIRST, 7));
        due("JOINED there", 1, () -> buddy.again(FIRST, 2));
        due("one hole there", 1, () -> buddy.again(FIRST, 6));
        HeapwrightLab first = lab(FIRST, 1, 0);
        first.open();
        first.ask(300);
        first.ask(300);
        first.ask(300);
        due("all three with FIRST", 3, first::close);
        due("JOINED: the last one, and each ahead of a hole", 3, () -> first.counted(2));
        due("two with BUDDY", 1024, () -> first.again(BUDDY, 5));
        due("BUDDY: both halves are JOINED", 1, () -> first.again(BUDDY, 2));
        due("BUDDY: a bare memory", 1024, () -> first.again(BUDDY, 7));
        due("two with SLAB", 768, () -> first.again(SLAB, 5));
        due("SLAB: none is JOINED", 0, () -> first.again(SLAB, 2));
        due("SLAB: a bare memory", 1024, () -> first.again(SLAB, 7));
        HeapwrightLab given = lab(FIRST, 1, 0);
        given.open();
        given.ask(10);
        given.ask(10);
        given.giveBack(1);
        due("what was given back is not given back once more", 1, given::close);
        for (int way = FIRST; way <= WORST; way++) {
            int other = way;
            due("JOINED, way " + way, 2, () -> given.again(other, 2));
        }
        due("SLAB: the page is JOINED once", 1, () -> given.again(SLAB, 2));
        due("BUDDY: up to the whole", 6, () -> given.again(BUDDY, 2));
    }

    /** What a run does; on the twin an arena is closed by giving each of its blocks back. */
    private static final class Twins {
        final HeapwrightLab arenas;
        final HeapwrightLab byHand;
        private final int[] inner = new int[80];
        private int many = 0;

        Twins(int way, int step, int head) {
            arenas = lab(way, step, head, 9);
            byHand = lab(way, step, head, 9);
            arenas.open();
        }

        void ask(int... sizes) {
            for (int size : sizes) {
                inner[many] = arenas.ask(size);
                due("name", inner[many], () -> byHand.ask(size));
                many++;
            }
        }

        void giveBack(int... names) {
            without(arenas, names);
            without(byHand, names);
        }

        void resize(int name, int size) {
            arenas.resize(name, size);
            byHand.resize(name, size);
        }

        void askInAnother(int size) {
            arenas.open();
            arenas.ask(size);
            due("the inner arena", 1, arenas::close);
            byHand.giveBack(byHand.ask(size));
        }

        void close() {
            int given = 0;
            for (int i = many - 1; i >= 0; i--) {
                if (byHand.isThere(inner[i])) {
                    byHand.giveBack(inner[i]);
                    given++;
                }
            }
            due("given back", given, arenas::close);
            sameDeeds();
        }

        /** The SIZE that it has is a deed by which nothing happens. */
        private void sameDeeds() {
            while (arenas.deeds() < byHand.deeds()) {
                arenas.resize(0, 9);
            }
            while (byHand.deeds() < arenas.deeds()) {
                byHand.resize(0, 9);
            }
        }
    }

    private static void dueSame(String what, Twins twins) {
        HeapwrightLab x = twins.arenas;
        HeapwrightLab y = twins.byHand;
        for (int number = 0; number <= 4; number++) {
            int each = number;
            due(what + ": counted " + number, y.counted(number), () -> x.counted(each));
        }
        due(what + ": holes", y.holes(), x::holes);
        for (int hole = 0; hole < y.holes(); hole++) {
            int each = hole;
            due(what + ": place of hole " + hole, y.holePlace(hole), () -> x.holePlace(each));
            due(what + ": size of hole " + hole, y.holeSize(hole), () -> x.holeSize(each));
        }
        due(what + ": largest", y.largest(), x::largest);
        due(what + ": hand", y.hand(), x::hand);
        due(what + ": greatest", y.greatest(), x::greatest);
        for (int way = FIRST; way <= SLAB; way++) {
            for (int number = 0; number <= 7; number++) {
                int other = way;
                int each = number;
                due(what + ": again " + way + ", " + number, y.again(way, number), () -> x.again(other, each));
            }
        }
        due(what + ": digest", y.digest(), x::digest);
    }

    /** Nothing fails in any way, so that the same names are there when it is done again. */
    private static void asByGiveBack() {
        int[][] stepsHeads = {{1, 0}, {4, 2}, {8, 8}};
        for (int[] each : stepsHeads) {
            for (int way = FIRST; way <= SLAB; way++) {
                String what = "way " + way + ", STEP " + each[0] + ", HEAD " + each[1];
                Twins none = new Twins(way, each[0], each[1]);
                none.close();
                dueSame(what + ", without blocks", none);
                Twins row = new Twins(way, each[0], each[1]);
                row.ask(7, 15, 20, 7, 15, 20, 7, 40);
                row.close();
                dueSame(what + ", in a row", row);
                Twins gaps = new Twins(way, each[0], each[1]);
                gaps.ask(7, 15, 20, 7, 15, 20, 7, 40);
                gaps.giveBack(2, 4, 7);
                gaps.ask(3, 15);
                gaps.close();
                dueSame(what + ", with holes between", gaps);
                Twins moved = new Twins(way, each[0], each[1]);
                moved.ask(7, 15, 20);
                moved.askInAnother(12);
                moved.ask(30, 5);
                moved.resize(1, 33);
                moved.resize(5, 2);
                moved.resize(0, 50);
                moved.resize(0, 9);
                moved.close();
                dueSame(what + ", not in the order of their places", moved);
            }
        }
    }
}
