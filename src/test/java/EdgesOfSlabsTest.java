/** Section 4 of the document: for each sentence that names an edge a test of its own. */
public final class EdgesOfSlabsTest extends LabChecks {
    private EdgesOfSlabsTest() {
    }

    public static void main(String[] args) {
        Checks.sentence("The CLASSES are 8, 16, 32, 64 and 128 UNITS. ROOM is the least of them that is not below SIZE + HEAD",
            EdgesOfSlabsTest::classes);
        Checks.sentence("if there is none, it is SIZE + HEAD, MADE UP to 128", EdgesOfSlabsTest::largerRooms);
        Checks.sentence("The MEMORY is in 8 PAGES of 128 UNITS, each free, of a CLASS, or PART of a BLOCK",
            EdgesOfSlabsTest::eightPages);
        Checks.sentence("is put into the first PAGE of its CLASS that has a free SLOT", EdgesOfSlabsTest::firstPage);
        Checks.sentence("(PAGES of the CLASS are LOOKED at, one by one, up to that, it too)", EdgesOfSlabsTest::looked);
        Checks.sentence("into the first free SLOT of it", EdgesOfSlabsTest::firstSlot);
        Checks.sentence("without any, the first free PAGE (free ones are not LOOKED at) becomes one of the CLASS",
            EdgesOfSlabsTest::firstFreePage);
        Checks.sentence("(a SPLIT, but for the CLASS 128)", EdgesOfSlabsTest::split);
        Checks.sentence("A BLOCK that was given back, or was not to be had, is NOT THERE", EdgesOfSlabsTest::noPage);
        Checks.sentence("Larger ones take the first free PAGES in a row that are enough", EdgesOfSlabsTest::pagesInRow);
        Checks.sentence("nothing is LOOKED at or SPLIT by that", EdgesOfSlabsTest::nothingLooked);
        Checks.sentence("A PAGE without BLOCKS is free again", EdgesOfSlabsTest::freeAgain);
        Checks.sentence("(JOINED, if it was of a CLASS but 128)", EdgesOfSlabsTest::joined);
        Checks.sentence("each free SLOT of a PAGE of a CLASS", EdgesOfSlabsTest::slotsAreHoles);
        Checks.sentence("and all free PAGES that are in a row, together", EdgesOfSlabsTest::pagesAreHoles);
        Checks.end();
    }

    private static void classes() {
        int[][] headSizeRoom = {{0, 1, 8}, {0, 8, 8}, {0, 9, 16}, {0, 16, 16}, {0, 17, 32}, {0, 32, 32}, {0, 33, 64},
            {0, 64, 64}, {0, 65, 128}, {0, 127, 128}, {0, 128, 128}, {7, 1, 8}, {8, 1, 16}, {8, 8, 16}, {8, 9, 32},
            {8, 56, 64}, {8, 57, 128}, {8, 120, 128}};
        for (int[] each : headSizeRoom) {
            for (int step = 1; step <= 8; step *= 2) {
                HeapwrightLab x = lab(SLAB, step, each[0], each[1]);
                due("head " + each[0] + ", size " + each[1] + ", step " + step, each[2], () -> x.room(0));
                due("the class of its page", each[2], () -> x.pageClass(0));
            }
        }
    }

    private static void largerRooms() {
        int[][] headSizeRoom = {{0, 129, 256}, {0, 255, 256}, {0, 256, 256}, {0, 257, 384}, {0, 300, 384}, {8, 121, 256},
            {8, 248, 256}, {8, 249, 384}, {8, 300, 384}};
        for (int[] each : headSizeRoom) {
            for (int step = 1; step <= 8; step *= 2) {
                HeapwrightLab x = lab(SLAB, step, each[0], each[1]);
                due("head " + each[0] + ", size " + each[1] + ", step " + step, each[2], () -> x.room(0));
                due("its page", -1, () -> x.pageClass(0));
            }
        }
    }

    private static HeapwrightLab pages(int many) {
        HeapwrightLab x = lab(SLAB, 1, 0);
        for (int page = 0; page < many; page++) {
            x.ask(128);
        }
        return x;
    }

    private static void eightPages() {
        HeapwrightLab x = pages(8);
        for (int page = 0; page < 8; page++) {
            int each = page;
            due("the page " + page, each * 128, () -> x.place(each));
            due("the page " + page, 128, () -> x.pageClass(each));
        }
        x.ask(128);
        due("a ninth", false, () -> x.isThere(8));
        HeapwrightLab y = lab(SLAB, 1, 0, 300, 8);
        int[] classes = {-1, -1, -1, 8, 0, 0, 0, 0};
        for (int page = 0; page < 8; page++) {
            int each = page;
            due("PART, of a class, free", classes[each], () -> y.pageClass(each));
        }
        for (int page : new int[] {-1, 8, LEAST, GREATEST}) {
            due("the page " + page, INDEX, () -> y.pageClass(page));
        }
    }

    /** The pages 0, 2 and 3 of the class 64, with slots free in 3 alone; the page 1 of the class 32. */
    private static HeapwrightLab threePages() {
        return lab(SLAB, 1, 0, 64, 64, 32, 64, 64, 64);
    }

    private static void firstPage() {
        HeapwrightLab x = threePages();
        due("full ones are passed by", 448, () -> x.wouldBe(64));
        x.giveBack(4);
        due("an earlier one", 320, () -> x.wouldBe(64));
        x.giveBack(1);
        due("the first one of all", 64, () -> x.wouldBe(64));
        due("of its class alone", 160, () -> x.wouldBe(32));
        due("of its class alone, though smaller", 512, () -> x.wouldBe(16));
        HeapwrightLab free = without(lab(SLAB, 1, 0, 128, 64), 0);
        due("a page of the class goes ahead of an earlier free page", 192, () -> free.wouldBe(33));
        due("another class takes the free page", 0, () -> free.wouldBe(32));
    }

    private static void looked() {
        HeapwrightLab x = threePages();
        due("as they were put", 0 + 1 + 0 + 1 + 2 + 2, () -> x.counted(0));
        x.ask(64);
        due("the last one of three", 6 + 3, () -> x.counted(0));
        x.giveBack(4);
        x.ask(64);
        due("the second of three", 9 + 2, () -> x.counted(0));
        x.giveBack(0);
        x.ask(64);
        due("the first of three", 11 + 1, () -> x.counted(0));
        x.ask(64);
        due("all three, none has a free slot", 12 + 3, () -> x.counted(0));
        x.ask(32);
        due("the only one of the class", 15 + 1, () -> x.counted(0));
        x.ask(8);
        due("none of the class", 16, () -> x.counted(0));
        due("all of the class 128", 0 + 1 + 2 + 3, () -> pages(4).counted(0));
    }

    private static void firstSlot() {
        HeapwrightLab x = lab(SLAB, 1, 0, 16, 16, 16, 16, 16, 16, 16, 16);
        x.giveBack(7);
        x.giveBack(0);
        x.giveBack(3);
        int[] places = {0, 48, 112, 128};
        for (int i = 0; i < 4; i++) {
            x.ask(16);
            int name = 8 + i;
            due("name " + name, places[i], () -> x.place(name));
        }
        HeapwrightLab y = lab(SLAB, 1, 0, 8);
        for (int name = 1; name < 17; name++) {
            y.ask(8);
            int latest = name;
            due("slot behind slot, the 17th in the next page", latest * 8, () -> y.place(latest));
        }
    }

    private static void firstFreePage() {
        HeapwrightLab x = without(lab(SLAB, 1, 0, 128, 64, 64, 128, 128), 0, 3);
        due("as they were put", 0 + 0 + 1 + 1 + 2, () -> x.counted(0));
        x.ask(64);
        due("the first free page, ahead of the full one", 0, () -> x.place(5));
        due("its class", 64, () -> x.pageClass(0));
        due("the full page alone was looked at", 4 + 1, () -> x.counted(0));
        x.ask(128);
        due("the next free page", 256, () -> x.place(6));
        due("the page 3 alone was looked at", 5 + 1, () -> x.counted(0));
        x.ask(8);
        due("the next free page", 512, () -> x.place(7));
        due("none of the class is looked at", 6, () -> x.counted(0));
        HeapwrightLab last = pages(7);
        due("the last page", 896, () -> last.wouldBe(1));
    }

    private static void split() {
        for (int size = 8; size <= 64; size *= 2) {
            int each = size;
            due("the class " + size, 1, () -> lab(SLAB, 1, 0, each).counted(1));
            due("a second one in that page", 1, () -> lab(SLAB, 1, 0, each, each).counted(1));
        }
        due("65 is of the class 128", 0, () -> lab(SLAB, 1, 0, 65).counted(1));
        due("the class 128", 0, () -> lab(SLAB, 1, 0, 128).counted(1));
        HeapwrightLab full = pages(8);
        full.ask(64);
        due("no page", 0, () -> full.counted(1));
        full.giveBack(7);
        full.ask(64);
        due("what was of the class 128", 1, () -> full.counted(1));
    }

    private static void noPage() {
        HeapwrightLab x = lab(SLAB, 1, 0, 300, 300, 128, 64, 64);
        due("no hole", 0, x::holes);
        due("no hole", -1, () -> x.wouldBe(1));
        int looked = x.counted(0);
        x.ask(64);
        due("the full page of the class is looked at", looked + 1, () -> x.counted(0));
        x.ask(128);
        due("the full page of the class is looked at", looked + 2, () -> x.counted(0));
        x.ask(8);
        x.ask(129);
        due("no page of that class", looked + 2, () -> x.counted(0));
        due("FAILED", 4, () -> x.counted(4));
        x.giveBack(4);
        dueHoles("a slot of 64", x, 960, 64);
        due("too large for it", -1, () -> x.wouldBe(65));
        due("just as large", 960, () -> x.wouldBe(64));
        due("its class", 960, () -> x.wouldBe(33));
        due("of a smaller class", -1, () -> x.wouldBe(32));
    }

    private static void pagesInRow() {
        HeapwrightLab x = without(pages(8), 1, 3, 4);
        due("one page is too few", 384, () -> x.wouldBe(129));
        due("just enough", 384, () -> x.wouldBe(256));
        due("one too few", -1, () -> x.wouldBe(257));
        x.giveBack(6);
        x.giveBack(7);
        due("the first of two rows", 384, () -> x.wouldBe(256));
        x.giveBack(5);
        due("five in a row", 384, () -> x.wouldBe(257));
        x.ask(257);
        due("then two at the end", 768, () -> x.wouldBe(256));
        due("two are too few", -1, () -> x.wouldBe(257));
        HeapwrightLab round = without(pages(8), 0, 7);
        due("the last and the first are not in a row", -1, () -> round.wouldBe(129));
        HeapwrightLab ends = without(pages(8), 7, 6, 5);
        due("at the end", 640, () -> ends.wouldBe(300));
        HeapwrightLab slots = lab(SLAB, 1, 0, 64, 300, 300);
        slots.giveBack(1);
        due("a free slot is no page", 128, () -> slots.wouldBe(300));
        due("full", -1, () -> filled(SLAB).wouldBe(129));
    }

    private static void nothingLooked() {
        HeapwrightLab x = lab(SLAB, 1, 0, 129);
        dueCounts("two pages", x, 0, 0, 0, 0, 0);
        x.ask(300);
        x.ask(256);
        dueCounts("three and two pages", x, 0, 0, 0, 0, 0);
        x.ask(129);
        dueCounts("not to be had", x, 0, 0, 0, 0, 1);
        HeapwrightLab y = pages(3);
        y.ask(300);
        dueCounts("pages of the class 128 beside it", y, 3, 0, 0, 0, 0);
    }

    private static void freeAgain() {
        HeapwrightLab x = lab(SLAB, 1, 0, 64, 64, 128, 300);
        x.giveBack(0);
        due("one is left", 64, () -> x.pageClass(0));
        x.giveBack(1);
        due("none is left", 0, () -> x.pageClass(0));
        x.giveBack(2);
        due("the class 128", 0, () -> x.pageClass(1));
        due("its PART, the first", -1, () -> x.pageClass(2));
        x.giveBack(3);
        for (int page = 0; page < 8; page++) {
            int each = page;
            due("all are free", 0, () -> x.pageClass(each));
        }
        due("another class there", 0, () -> x.wouldBe(8));
    }

    private static void joined() {
        HeapwrightLab x = lab(SLAB, 1, 0);
        for (int name = 0; name < 16; name++) {
            x.ask(8);
        }
        for (int name = 15; name >= 1; name--) {
            x.giveBack(name);
        }
        due("one is left", 0, () -> x.counted(2));
        x.giveBack(0);
        due("none is left", 1, () -> x.counted(2));
        for (int size = 8; size <= 64; size *= 2) {
            HeapwrightLab alone = without(lab(SLAB, 1, 0, size), 0);
            due("the only one, of the class " + size, 1, () -> alone.counted(2));
        }
        due("of the class 128", 0, () -> without(pages(3), 0, 2, 1).counted(2));
        due("larger ones", 0, () -> without(lab(SLAB, 1, 0, 129, 300, 300), 0, 2, 1).counted(2));
    }

    private static void slotsAreHoles() {
        HeapwrightLab x = without(lab(SLAB, 1, 0, 64, 64, 64, 64), 1, 2);
        dueHoles("slots side by side", x, 64, 64, 128, 64, 256, 768);
        HeapwrightLab y = lab(SLAB, 1, 0, 32);
        dueHoles("slots of one page", y, 32, 32, 64, 32, 96, 32, 128, 896);
        HeapwrightLab beside = without(lab(SLAB, 1, 0, 128, 64, 64), 0, 1);
        dueHoles("a slot behind a free page", beside, 0, 128, 128, 64, 256, 768);
        HeapwrightLab ahead = lab(SLAB, 1, 0, 64);
        dueHoles("a slot ahead of a free page", ahead, 64, 64, 128, 896);
        HeapwrightLab full = lab(SLAB, 1, 0, 64, 64);
        dueHoles("no free slot", full, 128, 896);
        dueHoles("the class 128 has none", pages(8));
        HeapwrightLab most = lab(SLAB, 1, 0, 8);
        due("of the class 8", 15 + 1, most::holes);
        due("the last slot", 120, () -> most.holePlace(14));
        due("the last slot", 8, () -> most.holeSize(14));
    }

    private static void pagesAreHoles() {
        dueHoles("all", lab(SLAB, 1, 0), 0, 1024);
        HeapwrightLab x = without(pages(8), 0, 2, 3, 7);
        dueHoles("rows", x, 0, 128, 256, 256, 896, 128);
        x.giveBack(1);
        dueHoles("one row more", x, 0, 512, 896, 128);
        due("largest", 512, x::largest);
        HeapwrightLab y = without(lab(SLAB, 1, 0, 300, 300), 0);
        dueHoles("what a larger one leaves", y, 0, 384, 768, 256);
    }
}
