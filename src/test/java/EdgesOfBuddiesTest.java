/** Section 3 of the document: for each sentence that names an edge a test of its own. */
public final class EdgesOfBuddiesTest extends LabChecks {
    private EdgesOfBuddiesTest() {
    }

    public static void main(String[] args) {
        Checks.sentence("ROOM is the least power of 2, 8 at least, that is not below SIZE + HEAD",
            EdgesOfBuddiesTest::rooms);
        Checks.sentence("whose UNITS are powers of 2, each at a place that is a multiple of that",
            EdgesOfBuddiesTest::powers);
        Checks.sentence("at first it is one HOLE", EdgesOfBuddiesTest::oneHole);
        Checks.sentence("Of the HOLES with as many UNITS as ROOM or more those with the fewest are taken",
            EdgesOfBuddiesTest::fewest);
        Checks.sentence("of these the first one", EdgesOfBuddiesTest::firstOfThese);
        Checks.sentence("each HOLE that there is is LOOKED at", EdgesOfBuddiesTest::looked);
        Checks.sentence("While it has more than ROOM, it is SPLIT in two halves", EdgesOfBuddiesTest::split);
        Checks.sentence("of which the first one is taken", EdgesOfBuddiesTest::firstHalf);
        Checks.sentence("As a BLOCK is given back, it becomes a HOLE", EdgesOfBuddiesTest::becomesHole);
        Checks.sentence("as long as the other half of what it was split from is a HOLE", EdgesOfBuddiesTest::otherHalf);
        Checks.sentence("is a HOLE with as many UNITS, both are JOINED", EdgesOfBuddiesTest::asManyUnits);
        Checks.sentence("A BLOCK that was given back, or was not to be had, is NOT THERE", EdgesOfBuddiesTest::noneLargeEnough);
        Checks.end();
    }

    private static void rooms() {
        int[][] headSizeRoom = {{0, 1, 8}, {0, 7, 8}, {0, 8, 8}, {0, 9, 16}, {0, 16, 16}, {0, 17, 32}, {0, 32, 32},
            {0, 33, 64}, {0, 64, 64}, {0, 65, 128}, {0, 128, 128}, {0, 129, 256}, {0, 255, 256}, {0, 256, 256},
            {0, 257, 512}, {0, 300, 512}, {7, 1, 8}, {8, 1, 16}, {8, 8, 16}, {8, 9, 32}, {8, 120, 128}, {8, 121, 256},
            {8, 248, 256}, {8, 249, 512}, {8, 300, 512}};
        for (int[] each : headSizeRoom) {
            for (int step = 1; step <= 8; step *= 2) {
                HeapwrightLab x = lab(BUDDY, step, each[0], each[1]);
                due("head " + each[0] + ", size " + each[1] + ", step " + step, each[2], () -> x.room(0));
                due("used", each[2], x::used);
            }
        }
    }

    private static void powers() {
        HeapwrightLab x = lab(BUDDY, 1, 0, 30, 100, 5, 60, 9, 200, 16, 8);
        duePowers(x);
        for (int name = 7; name >= 0; name--) {
            x.giveBack(name);
            duePowers(x);
        }
    }

    private static void duePowers(HeapwrightLab x) {
        int all = 0;
        for (int hole = 0; hole < x.holes(); hole++) {
            int units = x.holeSize(hole);
            int place = x.holePlace(hole);
            all += units;
            due("a power of 2 at its multiple: " + place + ", " + units, true,
                () -> units >= 8 && Integer.bitCount(units) == 1 && place % units == 0);
        }
        int free = all;
        due("all that is not used", 1024 - x.used(), () -> free);
    }

    private static void oneHole() {
        HeapwrightLab x = lab(BUDDY, 4, 2);
        dueHoles("bare", x, 0, 1024);
        due("largest", 1024, x::largest);
        due("the greatest would be", 0, () -> x.wouldBe(300));
        due("again: holes", 1, () -> new HeapwrightLab().again(BUDDY, 6));
        due("again: largest", 1024, () -> new HeapwrightLab().again(BUDDY, 7));
    }

    private static void fewest() {
        HeapwrightLab x = lab(BUDDY, 1, 0, 8, 32, 128);
        dueHoles("one of each, but for three", x, 8, 8, 16, 16, 64, 64, 256, 256, 512, 512);
        int[][] sizePlace = {{1, 8}, {8, 8}, {9, 16}, {16, 16}, {17, 64}, {64, 64}, {65, 256}, {256, 256}, {257, 512},
            {300, 512}};
        for (int[] each : sizePlace) {
            due("size " + each[0], each[1], () -> x.wouldBe(each[0]));
        }
        HeapwrightLab later = without(lab(BUDDY, 1, 0, 64, 8), 0);
        dueHoles("larger ones ahead of smaller ones", later, 0, 64, 72, 8, 80, 16, 96, 32, 128, 128, 256, 256, 512, 512);
        due("8 behind 64", 72, () -> later.wouldBe(8));
        due("16 behind 64", 80, () -> later.wouldBe(9));
        due("32 behind 64", 96, () -> later.wouldBe(32));
        due("64 is as many", 0, () -> later.wouldBe(33));
    }

    private static void firstOfThese() {
        HeapwrightLab x = without(lab(BUDDY, 1, 0, 8, 8, 8, 8), 2, 0);
        dueHoles("two of 8", x, 0, 8, 16, 8, 32, 32, 64, 64, 128, 128, 256, 256, 512, 512);
        due("as many", 0, () -> x.wouldBe(8));
        x.ask(8);
        due("then the other", 16, () -> x.wouldBe(8));
        HeapwrightLab halves = without(lab(BUDDY, 1, 0, 256, 256, 256, 256), 3, 1);
        due("two of 256, to be split", 256, () -> halves.wouldBe(8));
    }

    private static void looked() {
        HeapwrightLab x = lab(BUDDY, 1, 0, 300);
        due("one hole", 1, () -> x.counted(0));
        x.ask(200);
        due("one hole", 2, () -> x.counted(0));
        x.ask(300);
        due("one that is too small", 3, () -> x.counted(0));
        x.ask(256);
        due("one hole", 4, () -> x.counted(0));
        x.ask(1);
        due("no hole", 4, () -> x.counted(0));
        due("FAILED", 2, () -> x.counted(4));
        HeapwrightLab y = lab(BUDDY, 1, 0, 8, 8);
        due("seven holes, the first one fits wholly", 1 + 7, () -> y.counted(0));
        y.ask(257);
        due("six holes, five of them too small", 8 + 6, () -> y.counted(0));
    }

    private static void split() {
        int[][] sizeSplits = {{1, 7}, {8, 7}, {9, 6}, {16, 6}, {32, 5}, {64, 4}, {128, 3}, {256, 2}, {257, 1}, {300, 1}};
        for (int[] each : sizeSplits) {
            due("size " + each[0], each[1], () -> lab(BUDDY, 1, 0, each[0]).counted(1));
        }
        HeapwrightLab x = lab(BUDDY, 1, 0, 300, 257);
        due("it has no more than ROOM", 1, () -> x.counted(1));
        x.ask(1);
        due("no hole", 1, () -> x.counted(1));
        HeapwrightLab y = lab(BUDDY, 1, 0, 8, 9);
        due("16 of 16", 7, () -> y.counted(1));
        y.ask(17);
        y.ask(20);
        due("32 of 32, 32 of 64", 8, () -> y.counted(1));
    }

    private static void firstHalf() {
        HeapwrightLab x = lab(BUDDY, 1, 0, 8);
        dueBlock("the first of all", x, 0, 0, 8, 8);
        dueHoles("the second halves", x, 8, 8, 16, 16, 32, 32, 64, 64, 128, 128, 256, 256, 512, 512);
        x.ask(65);
        dueBlock("as many", x, 1, 128, 65, 128);
        x.ask(65);
        dueBlock("the first half of 256", x, 2, 256, 65, 128);
        dueHoles("the second halves", x, 8, 8, 16, 16, 32, 32, 64, 64, 384, 128, 512, 512);
    }

    private static void becomesHole() {
        HeapwrightLab x = lab(BUDDY, 1, 0, 256, 256, 256, 256);
        due("the ROOM", 256, () -> x.giveBack(1));
        dueHoles("between blocks", x, 256, 256);
        x.giveBack(3);
        dueHoles("at the end", x, 256, 256, 768, 256);
        due("none joined", 0, () -> x.counted(2));
        HeapwrightLab only = without(lab(BUDDY, 1, 0, 1), 0);
        dueHoles("the only one", only, 0, 1024);
    }

    private static void otherHalf() {
        HeapwrightLab x = without(lab(BUDDY, 1, 0, 8, 8, 8, 8), 1, 2);
        dueHoles("side by side, but halves of two", x, 8, 8, 16, 8, 32, 32, 64, 64, 128, 128, 256, 256, 512, 512);
        due("none joined", 0, () -> x.counted(2));
        x.giveBack(0);
        due("the half behind", 1, () -> x.counted(2));
        dueHoles("the half behind", x, 0, 16, 16, 8, 32, 32, 64, 64, 128, 128, 256, 256, 512, 512);
        x.giveBack(3);
        due("the half ahead, and so on up to the whole", 1 + 7, () -> x.counted(2));
        dueHoles("the whole", x, 0, 1024);
        HeapwrightLab block = without(lab(BUDDY, 1, 0, 8, 8), 0);
        due("the other half is a block", 0, () -> block.counted(2));
        HeapwrightLab stops = without(lab(BUDDY, 1, 0, 8, 300), 0);
        due("up to where the other half is a block", 6, () -> stops.counted(2));
        dueHoles("up to there", stops, 0, 512);
        stops.giveBack(1);
        due("the last two halves", 7, () -> stops.counted(2));
        HeapwrightLab second = without(lab(BUDDY, 1, 0, 300, 8), 1);
        dueHoles("the second half of all", second, 512, 512);
        HeapwrightLab whole = without(lab(BUDDY, 1, 0, 300, 300), 1);
        due("the first half is a block", 0, () -> whole.counted(2));
        whole.giveBack(0);
        due("the whole has no other half", 1, () -> whole.counted(2));
        dueHoles("the whole", whole, 0, 1024);
    }

    private static void asManyUnits() {
        HeapwrightLab ahead = without(lab(BUDDY, 1, 0, 8, 8, 16), 0, 2);
        due("the other half begins with a hole of 8", 0, () -> ahead.counted(2));
        dueHoles("8 is not 16", ahead, 0, 8, 16, 16, 32, 32, 64, 64, 128, 128, 256, 256, 512, 512);
        HeapwrightLab behind = without(lab(BUDDY, 1, 0, 16, 8, 8), 1, 0);
        due("the other half begins with a hole of 8", 0, () -> behind.counted(2));
        HeapwrightLab large = without(lab(BUDDY, 1, 0, 256, 8), 0);
        due("the other half is a block, and holes behind it", 0, () -> large.counted(2));
        large.giveBack(1);
        due("five of the one, then both, then all", 5 + 1 + 1, () -> large.counted(2));
    }

    private static void noneLargeEnough() {
        HeapwrightLab x = without(lab(BUDDY, 1, 0, 256, 256, 256, 256), 1, 2);
        dueHoles("512 units side by side, but no half", x, 256, 256, 512, 256);
        due("would not be", -1, () -> x.wouldBe(257));
        x.ask(257);
        dueBlock("not to be had", x, 4, -1, -1, -1);
        due("FAILED", 1, () -> x.counted(4));
        due("just as large", 256, () -> x.wouldBe(256));
        HeapwrightLab full = lab(BUDDY, 8, 8, 248, 248, 248, 248);
        due("no hole", 0, full::holes);
        due("no hole", -1, () -> full.wouldBe(1));
    }
}
