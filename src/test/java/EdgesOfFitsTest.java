/** "Terms" and the sections 1 and 2 of the document: for each sentence that names an edge a test of its own. */
public final class EdgesOfFitsTest extends LabChecks {
    private EdgesOfFitsTest() {
    }

    public static void main(String[] args) {
        Checks.sentence("MADE UP to a step by taking the least multiple of the step that is not below it",
            EdgesOfFitsTest::madeUp);
        Checks.sentence("The MEMORY has 1024 UNITS, numbered from 0", EdgesOfFitsTest::units);
        Checks.sentence("it has a SIZE, 1 to 300, that was asked for", EdgesOfFitsTest::sizes);
        Checks.sentence("the first one is 0, the next one 1, and so on, whether it could be had or not",
            EdgesOfFitsTest::namesInTurn);
        Checks.sentence("no name is used again", EdgesOfFitsTest::noNameAgain);
        Checks.sentence("at most 80 names are given", EdgesOfFitsTest::eightyNames);
        Checks.sentence("A BLOCK that was given back, or was not to be had, is NOT THERE", EdgesOfFitsTest::notThere);
        Checks.sentence("All UNITS that are in no BLOCK, one behind the other, are a HOLE", EdgesOfFitsTest::holes);
        Checks.sentence("FIRST at first", EdgesOfFitsTest::firstAtFirst);
        Checks.sentence("STEP is 1, 2, 4 or 8 (4 at first)", EdgesOfFitsTest::steps);
        Checks.sentence("HEAD is 0 to 8 (2 at first)", EdgesOfFitsTest::heads);
        Checks.sentence("is counted since the beginning", EdgesOfFitsTest::sinceTheBeginning);
        Checks.sentence("ROOM is SIZE + HEAD, MADE UP to STEP", EdgesOfFitsTest::rooms);
        Checks.sentence("each that one comes to is LOOKED at", EdgesOfFitsTest::looked);
        Checks.sentence("FIRST takes the first one that has as many UNITS as ROOM or more", EdgesOfFitsTest::first);
        Checks.sentence("NEXT goes on from the HAND (the place 0 at first)", EdgesOfFitsTest::nextAtFirst);
        Checks.sentence("from the first HOLE that has a UNIT at the HAND or behind it", EdgesOfFitsTest::nextFromHand);
        Checks.sentence("(the first one of all, if none has)", EdgesOfFitsTest::nextFirstOfAll);
        Checks.sentence("round to the one ahead of that", EdgesOfFitsTest::nextRound);
        Checks.sentence("it takes the first one that is large enough", EdgesOfFitsTest::nextLargeEnough);
        Checks.sentence("BEST looks at all, and takes the one with the fewest UNITS of those that are large enough",
            EdgesOfFitsTest::best);
        Checks.sentence("WORST the one with the most", EdgesOfFitsTest::worst);
        Checks.sentence("of several the first one", EdgesOfFitsTest::firstOfSeveral);
        Checks.sentence("The BLOCK is at the beginning of the HOLE that is taken", EdgesOfFitsTest::atTheBeginning);
        Checks.sentence("if anything of that is left, that is a SPLIT", EdgesOfFitsTest::anythingLeft);
        Checks.sentence("with NEXT the HAND is the place behind the BLOCK then (0, if that is the end of the MEMORY)",
            EdgesOfFitsTest::handBehind);
        Checks.sentence("As a BLOCK is given back, its UNITS become a HOLE with those beside it",
            EdgesOfFitsTest::holeWithThoseBeside);
        Checks.sentence("each HOLE right ahead of it or right behind it is JOINED", EdgesOfFitsTest::joined);
        Checks.end();
    }

    private static void madeUp() {
        int[][] stepSizeRoom = {{1, 1, 1}, {1, 2, 2}, {1, 299, 299}, {1, 300, 300}, {2, 1, 2}, {2, 2, 2}, {2, 3, 4},
            {2, 299, 300}, {2, 300, 300}, {4, 1, 4}, {4, 3, 4}, {4, 4, 4}, {4, 5, 8}, {4, 297, 300}, {4, 300, 300},
            {8, 1, 8}, {8, 7, 8}, {8, 8, 8}, {8, 9, 16}, {8, 296, 296}, {8, 297, 304}, {8, 300, 304}};
        for (int[] each : stepSizeRoom) {
            for (int way = FIRST; way <= WORST; way++) {
                HeapwrightLab x = lab(way, each[0], 0, each[1]);
                due(each[1] + " made up to " + each[0], each[2], () -> x.room(0));
                due(each[1] + " made up to " + each[0] + ": wasted", each[2] - each[1], x::wasted);
            }
        }
    }

    private static void units() {
        for (int way = FIRST; way <= SLAB; way++) {
            HeapwrightLab full = filled(way);
            due("used", 1024, full::used);
            due("no hole", 0, full::holes);
            due("the unit 0", 0, () -> full.at(0));
            due("the unit 1023", 3, () -> full.at(1023));
            for (int unit : new int[] {-1, 1024, LEAST, GREATEST}) {
                due("the unit " + unit, INDEX, () -> full.at(unit));
            }
            full.ask(1);
            due("no 1025th", 1024, full::used);
            HeapwrightLab bare = lab(way, 1, 0);
            due("a bare one's unit 0", -1, () -> bare.at(0));
            due("a bare one's unit 1023", -1, () -> bare.at(1023));
        }
        HeapwrightLab over = lab(FIRST, 1, 0, 300, 300, 300, 125);
        due("1025 are not had", 900, over::used);
        HeapwrightLab under = lab(FIRST, 1, 0, 300, 300, 300, 123);
        dueHoles("1023 leave one", under, 1023, 1);
    }

    private static void sizes() {
        for (int way = FIRST; way <= SLAB; way++) {
            HeapwrightLab x = lab(way, 1, 0, 1, 300);
            due("least", 1, () -> x.size(0));
            due("greatest", 300, () -> x.size(1));
            HeapwrightLab y = lab(way, 1, 0, 150);
            y.resize(0, 300);
            due("made greatest", 300, () -> y.size(0));
            y.resize(0, 1);
            due("made least", 1, () -> y.size(0));
            HeapwrightLab bare = lab(way, 1, 0);
            due("would be the least", 0, () -> bare.wouldBe(1));
            due("would be the greatest", 0, () -> bare.wouldBe(300));
            for (int size : WRONG_SIZES) {
                dueRefused("ask " + size, ARGUMENT, x, () -> x.ask(size));
                dueRefused("resize to " + size, ARGUMENT, y, () -> y.resize(0, size));
                dueRefused("wouldBe " + size, ARGUMENT, bare, () -> bare.wouldBe(size));
            }
        }
    }

    private static void namesInTurn() {
        for (int way = FIRST; way <= SLAB; way++) {
            HeapwrightLab x = lab(way, 1, 0);
            for (int name = 0; name < 5; name++) {
                int next = name;
                due("name in way " + way, next, () -> x.ask(300));
            }
            due("the last one was not to be had", false, () -> x.isThere(4));
            due("the name behind it", 5, () -> x.ask(1));
            due("names", 6, x::names);
        }
    }

    private static void noNameAgain() {
        for (int way = FIRST; way <= SLAB; way++) {
            HeapwrightLab x = without(lab(way, 1, 0, 10, 10), 1);
            due("the latest was given back", 2, () -> x.ask(10));
            x.giveBack(2);
            x.giveBack(0);
            due("all were given back", 3, () -> x.ask(10));
            x.open();
            due("in an arena", 4, () -> x.ask(10));
            x.close();
            due("the arena is closed", 5, () -> x.ask(10));
            x.resize(5, 300);
            due("one was made larger", 6, () -> x.ask(10));
            due("names", 7, x::names);
        }
    }

    private static void eightyNames() {
        for (int way = FIRST; way <= SLAB; way++) {
            HeapwrightLab x = withNames(lab(way, 1, 0), 79);
            due("the 80th", 79, () -> x.ask(1));
            dueRefused("the 81st", STATE, x, () -> x.ask(1));
            x.giveBack(79);
            dueRefused("though one was given back", STATE, x, () -> x.ask(1));
            due("names", 80, x::names);
        }
        HeapwrightLab none = withNames(filled(FIRST), 80);
        due("76 were not to be had", 76, () -> none.counted(4));
        dueRefused("those that were not to be had are counted", STATE, none, () -> none.ask(1));
        none.reset(FIRST, 1, 0);
        due("names begin anew", 0, () -> none.ask(1));
    }

    private static void notThere() {
        for (int way = FIRST; way <= SLAB; way++) {
            HeapwrightLab x = filled(way);
            x.ask(1);
            x.giveBack(0);
            x.open();
            x.ask(1);
            x.close();
            for (int name : new int[] {0, 4, 5}) {
                dueBlock("way " + way, x, name, -1, -1, -1);
                dueRefused("given back", STATE, x, () -> x.giveBack(name));
                dueRefused("resized", STATE, x, () -> x.resize(name, 1));
                dueRefused("without", STATE, x, () -> x.largestWithout(name));
            }
            due("the others are there", 3, x::blocks);
            due("a place that it had", -1, () -> x.at(0));
        }
    }

    private static void holes() {
        for (int way = FIRST; way <= WORST; way++) {
            dueHoles("bare", lab(way, 1, 0), 0, 1024);
            dueHoles("full", filled(way));
            HeapwrightLab x = lab(way, 1, 0, 1, 300, 1, 300, 300, 121, 1);
            x.giveBack(0);
            x.giveBack(2);
            x.giveBack(6);
            dueHoles("of one unit, at both ends too", x, 0, 1, 301, 1, 1023, 1);
            due("ahead of a block", -1, () -> x.at(0));
            due("behind a hole", 1, () -> x.at(1));
            x.giveBack(3);
            x.giveBack(4);
            dueHoles("what lies behind each other is one", x, 0, 1, 301, 601, 1023, 1);
        }
    }

    private static void firstAtFirst() {
        HeapwrightLab x = new HeapwrightLab();
        due("way", 0, x::way);
        for (int size : new int[] {100, 10, 10, 10}) {
            x.ask(size);
        }
        x.giveBack(0);
        x.giveBack(2);
        dueHoles("a large one first", x, 0, 104, 116, 12, 140, 884);
        due("as FIRST takes it", 0, () -> x.wouldBe(10));
        due("the way before", 0, () -> x.reset(5, 1, 0));
        due("the way before", 5, () -> x.reset(0, 1, 0));
    }

    private static void steps() {
        HeapwrightLab fresh = new HeapwrightLab();
        fresh.ask(2);
        fresh.ask(3);
        due("4 at first", 4, () -> fresh.room(0));
        due("4 at first", 8, () -> fresh.room(1));
        for (int step = 1; step <= 8; step *= 2) {
            HeapwrightLab x = lab(FIRST, step, 0, 1, 9);
            due("step " + step, step, () -> x.room(0));
            due("step " + step, step == 8 ? 16 : step == 4 ? 12 : step == 2 ? 10 : 9, () -> x.room(1));
        }
        for (int step : new int[] {0, 3, 5, 6, 7, 9, 16, -1, -2, -4, -8, LEAST, GREATEST, 1 << 30}) {
            HeapwrightLab x = lab(FIRST, 2, 1, 4);
            dueRefused("step " + step, ARGUMENT, x, () -> x.reset(FIRST, step, 0));
            x.ask(6);
            due("STEP and HEAD are as they were", 8, () -> x.room(1));
        }
    }

    private static void heads() {
        HeapwrightLab fresh = new HeapwrightLab();
        fresh.ask(6);
        fresh.ask(7);
        due("2 at first", 8, () -> fresh.room(0));
        due("2 at first", 12, () -> fresh.room(1));
        due("2 at first", 24, () -> fresh.again(BUDDY, 5));
        for (int head = 0; head <= 8; head++) {
            for (int way = FIRST; way <= WORST; way++) {
                HeapwrightLab x = lab(way, 1, head, 10);
                due("head " + head, 10 + head, () -> x.room(0));
            }
        }
        for (int head : new int[] {-1, 9, -8, LEAST, GREATEST}) {
            HeapwrightLab x = lab(FIRST, 2, 1, 4);
            dueRefused("head " + head, ARGUMENT, x, () -> x.reset(FIRST, 1, head));
            x.ask(6);
            due("STEP and HEAD are as they were", 8, () -> x.room(1));
        }
    }

    private static void sinceTheBeginning() {
        HeapwrightLab x = lab(FIRST, 1, 0, 300, 10, 300, 300);
        x.giveBack(0);
        x.resize(1, 200);
        x.ask(300);
        x.giveBack(2);
        dueCounts("each of them", x, 7, 5, 2, 10, 1);
        x.reset(FIRST, 1, 0);
        dueCounts("anew", x, 0, 0, 0, 0, 0);
        for (int way = FIRST; way <= SLAB; way++) {
            for (int number = 0; number < 5; number++) {
                int other = way;
                int what = number;
                due("anew in way " + way, 0, () -> x.again(other, what));
            }
        }
        x.ask(1);
        dueCounts("one more", x, 1, 1, 0, 0, 0);
    }

    private static void rooms() {
        int[][] stepHeadSizeRoom = {{1, 0, 1, 1}, {1, 8, 1, 9}, {1, 8, 300, 308}, {2, 8, 300, 308}, {4, 8, 300, 308},
            {8, 8, 300, 312}, {8, 4, 300, 304}, {8, 5, 300, 312}, {8, 8, 296, 304}, {8, 8, 297, 312}, {8, 8, 1, 16},
            {8, 7, 1, 8}, {4, 2, 2, 4}, {4, 2, 3, 8}, {2, 1, 1, 2}, {2, 2, 1, 4}};
        for (int[] each : stepHeadSizeRoom) {
            for (int way = FIRST; way <= WORST; way++) {
                HeapwrightLab x = lab(way, each[0], each[1], each[2]);
                due("step " + each[0] + ", head " + each[1] + ", size " + each[2], each[3], () -> x.room(0));
                dueHoles("what is left", x, each[3], 1024 - each[3]);
            }
        }
    }

    private static void looked() {
        for (int way = FIRST; way <= WORST; way++) {
            HeapwrightLab full = filled(way);
            int before = full.counted(0);
            full.ask(1);
            due("no hole, none is looked at", before, () -> full.counted(0));
            due("no hole", 1, () -> full.counted(4));
            HeapwrightLab bare = lab(way, 1, 0, 300);
            due("one hole", 1, () -> bare.counted(0));
        }
        HeapwrightLab first = fourHoles(FIRST);
        first.ask(100);
        due("FIRST comes to one", 6 + 1, () -> first.counted(0));
        first.ask(70);
        due("FIRST comes to two of three", 7 + 2, () -> first.counted(0));
        first.ask(300);
        due("FIRST comes to the last of two", 9 + 2, () -> first.counted(0));
    }

    private static void first() {
        HeapwrightLab x = without(lab(FIRST, 1, 0, 10, 5, 20, 5, 30, 5), 0, 2, 4);
        int[][] sizePlace = {{1, 0}, {9, 0}, {10, 0}, {11, 15}, {20, 15}, {21, 40}, {30, 40}, {31, 75}, {300, 75}};
        for (int[] each : sizePlace) {
            due("size " + each[0], each[1], () -> x.wouldBe(each[0]));
        }
        HeapwrightLab headed = without(lab(FIRST, 4, 2, 10, 6, 20, 6), 0, 2);
        dueHoles("rooms of 12 and 24", headed, 0, 12, 20, 24, 52, 972);
        due("ROOM is 12", 0, () -> headed.wouldBe(10));
        due("ROOM is 16", 20, () -> headed.wouldBe(11));
        HeapwrightLab last = without(lab(FIRST, 1, 0, 300, 300, 300, 100, 24), 3);
        last.ask(101);
        dueCounts("one unit too few", last, 6, 4, 0, 0, 1);
        last.ask(100);
        dueBlock("just enough", last, 6, 900, 100, 100);
        dueCounts("just enough", last, 7, 4, 0, 0, 1);
        HeapwrightLab full = filled(FIRST);
        due("no hole", -1, () -> full.wouldBe(1));
    }

    private static void nextAtFirst() {
        HeapwrightLab x = lab(NEXT, 1, 0);
        due("HAND", 0, x::hand);
        due("would be", 0, () -> x.wouldBe(5));
        x.ask(5);
        due("place", 0, () -> x.place(0));
        due("HAND", 5, x::hand);
        due("HAND of a new object", 0, new HeapwrightLab()::hand);
    }

    /** No hole; name 8 was put from 20 up to 30 last. Behind it: 2 at 30, 3 at 31, 4 at 331, 5 at 336, 6 at 636. */
    private static HeapwrightLab handAt30() {
        HeapwrightLab x = without(lab(NEXT, 1, 0, 20, 10, 1, 300, 5, 300, 300, 88), 1);
        x.ask(10);
        return x;
    }

    private static void nextFromHand() {
        due("HAND", 30, handAt30()::hand);
        HeapwrightLab begins = without(handAt30(), 0, 2);
        dueHoles("the second begins there", begins, 0, 20, 30, 1);
        due("the hole begins at the HAND", 30, () -> begins.wouldBe(1));
        HeapwrightLab ends = without(handAt30(), 0, 8, 2, 5);
        dueHoles("the first has its last unit there", ends, 0, 31, 336, 300);
        due("the hole has its last unit at the HAND", 0, () -> ends.wouldBe(1));
        HeapwrightLab ahead = without(handAt30(), 0, 8, 5);
        dueHoles("the first ends ahead of it", ahead, 0, 30, 336, 300);
        due("the hole ends right ahead of the HAND", 336, () -> ahead.wouldBe(1));
        HeapwrightLab around = without(handAt30(), 0, 8, 2, 3, 5);
        dueHoles("the first goes past it", around, 0, 331, 336, 300);
        due("the HAND is within the hole", 0, () -> around.wouldBe(1));
        HeapwrightLab behind = without(handAt30(), 0, 4, 6);
        dueHoles("the second is behind it", behind, 0, 20, 331, 5, 636, 300);
        due("the first one behind the HAND", 331, () -> behind.wouldBe(1));
        behind.ask(1);
        due("it alone was looked at", 9 + 1, () -> behind.counted(0));
    }

    private static void nextFirstOfAll() {
        HeapwrightLab x = without(handAt30(), 0);
        due("the only one is ahead of the HAND", 0, () -> x.wouldBe(20));
        x.ask(20);
        due("and was looked at once", 9 + 1, () -> x.counted(0));
        HeapwrightLab y = without(lab(NEXT, 1, 0, 20, 10, 20, 300, 300, 300, 74), 4);
        y.ask(300);
        y.giveBack(0);
        y.giveBack(2);
        due("HAND", 650, y::hand);
        dueHoles("both are ahead of the HAND", y, 0, 20, 30, 20);
        due("the first of them", 0, () -> y.wouldBe(20));
        y.ask(15);
        due("place", 0, () -> y.place(8));
        y.ask(20);
        due("from there on to the other", 30, () -> y.place(9));
        due("one, then two were looked at", 8 + 1 + 2, () -> y.counted(0));
        HeapwrightLab none = filled(NEXT);
        due("no hole at all", -1, () -> none.wouldBe(1));
    }

    private static void nextRound() {
        HeapwrightLab x = without(handAt30(), 0, 2, 4);
        dueHoles("one ahead of the HAND, one at it, one behind", x, 0, 20, 30, 1, 331, 5);
        x.ask(21);
        dueCounts("none is large enough, each was looked at once", x, 9 + 3, 7, 0, 0, 1);
        due("HAND stays", 30, x::hand);
        x.ask(20);
        due("the last one that it comes to is the one ahead", 0, () -> x.place(10));
        due("all three were looked at", 12 + 3, () -> x.counted(0));
        HeapwrightLab lastHole = without(handAt30(), 0, 4);
        dueHoles("the HAND is ahead of the last one", lastHole, 0, 20, 331, 5);
        lastHole.ask(6);
        due("round to the first hole", 0, () -> lastHole.place(9));
        due("two were looked at", 9 + 2, () -> lastHole.counted(0));
        HeapwrightLab firstHole = without(handAt30(), 0, 8, 2, 4);
        dueHoles("the HAND is in the first one", firstHole, 0, 31, 331, 5);
        firstHole.ask(32);
        due("two were looked at", 9 + 2, () -> firstHole.counted(0));
        HeapwrightLab one = without(handAt30(), 2);
        one.ask(2);
        due("the only one was looked at once", 9 + 1, () -> one.counted(0));
    }

    private static void nextLargeEnough() {
        HeapwrightLab x = without(handAt30(), 0, 2, 4);
        int[][] sizePlace = {{1, 30}, {2, 331}, {5, 331}, {6, 0}, {20, 0}, {21, -1}};
        for (int[] each : sizePlace) {
            due("size " + each[0], each[1], () -> x.wouldBe(each[0]));
        }
    }

    private static void best() {
        HeapwrightLab x = fourHoles(BEST);
        int[][] sizePlace = {{1, 110}, {50, 110}, {51, 170}, {70, 170}, {71, 0}, {100, 0}, {101, 250}, {300, 250}};
        for (int[] each : sizePlace) {
            due("size " + each[0], each[1], () -> x.wouldBe(each[0]));
        }
        x.ask(50);
        due("all four, though one fits wholly", 6 + 4, () -> x.counted(0));
        x.ask(300);
        due("all three, though two are too small", 10 + 3, () -> x.counted(0));
        HeapwrightLab none = without(lab(BEST, 1, 0, 300, 300, 300, 20, 10, 94), 3, 5);
        none.ask(94);
        due("the only one that is large enough", 930, () -> none.place(6));
        none.giveBack(6);
        none.ask(95);
        dueCounts("none is large enough, all are looked at", none, 6 + 2 + 2, 5, 0, 0, 1);
    }

    private static void worst() {
        HeapwrightLab x = fourHoles(WORST);
        for (int size : new int[] {1, 50, 70, 100, 101, 300}) {
            due("size " + size, 250, () -> x.wouldBe(size));
        }
        x.ask(50);
        due("all four", 6 + 4, () -> x.counted(0));
        HeapwrightLab ahead = without(lab(WORST, 1, 0, 30, 300, 20, 300, 25, 300, 49), 0, 2, 4);
        dueHoles("the first is the largest", ahead, 0, 30, 330, 20, 650, 25);
        due("the first", 0, () -> ahead.wouldBe(20));
        HeapwrightLab last = without(lab(WORST, 1, 0, 300, 300, 300, 20, 10, 94), 3, 5);
        due("the last has the most", 930, () -> last.wouldBe(20));
        due("just as large", 930, () -> last.wouldBe(94));
        due("one too few", -1, () -> last.wouldBe(95));
        last.ask(95);
        dueCounts("none is large enough, all are looked at", last, 6 + 2, 5, 0, 0, 1);
    }

    private static void firstOfSeveral() {
        HeapwrightLab best = without(lab(BEST, 1, 0, 30, 5, 20, 5, 20, 5, 20, 5), 0, 2, 4, 6);
        dueHoles("three of 20", best, 0, 30, 35, 20, 60, 20, 85, 20, 110, 914);
        due("BEST", 35, () -> best.wouldBe(20));
        due("BEST, with some left", 35, () -> best.wouldBe(11));
        HeapwrightLab worst = without(lab(WORST, 1, 0, 20, 1, 300, 1, 300, 1, 300, 101), 0, 2, 4, 6);
        dueHoles("three of 300", worst, 0, 20, 21, 300, 322, 300, 623, 300);
        due("WORST", 21, () -> worst.wouldBe(300));
        due("WORST, with some left", 21, () -> worst.wouldBe(1));
        worst.ask(1);
        due("WORST, the first of the two others", 322, () -> worst.wouldBe(1));
    }

    private static void atTheBeginning() {
        for (int way = FIRST; way <= WORST; way++) {
            HeapwrightLab x = without(lab(way, 1, 0, 24, 300, 300, 300, 100), 4);
            x.ask(10);
            dueBlock("a small one in way " + way, x, 5, 924, 10, 10);
            dueHoles("what is left is behind it", x, 934, 90);
            due("its first unit", 5, () -> x.at(924));
            due("its last unit", 5, () -> x.at(933));
            due("the unit behind it", -1, () -> x.at(934));
        }
    }

    private static void anythingLeft() {
        for (int way = FIRST; way <= WORST; way++) {
            HeapwrightLab x = without(lab(way, 1, 0, 300, 300, 300, 24, 100), 4);
            due("no SPLIT at the end", 4, () -> x.counted(1));
            x.ask(100);
            due("nothing is left", 4, () -> x.counted(1));
            x.giveBack(5);
            x.ask(99);
            due("one unit is left", 5, () -> x.counted(1));
            dueHoles("one unit is left", x, 1023, 1);
            x.ask(1);
            due("that one is taken", 5, () -> x.counted(1));
            x.ask(1);
            due("not to be had", 5, () -> x.counted(1));
        }
    }

    private static void handBehind() {
        HeapwrightLab x = lab(NEXT, 1, 0, 300, 300, 300);
        due("behind the third", 900, x::hand);
        x.ask(123);
        due("the last unit", 1023, x::hand);
        x.ask(1);
        due("at the end", 0, x::hand);
        due("at the end, by one block", 0, filled(NEXT)::hand);
        HeapwrightLab rooms = lab(NEXT, 8, 8, 1);
        due("behind the ROOM", 16, rooms::hand);
        rooms.giveBack(0);
        due("it stays as a block is given back", 16, rooms::hand);
        HeapwrightLab failed = lab(NEXT, 1, 0, 300, 300, 300, 300);
        due("it stays if none could be had", 900, failed::hand);
        for (int way : new int[] {FIRST, BEST, WORST, BUDDY, SLAB}) {
            due("HAND in way " + way, 0, lab(way, 1, 0, 100, 100)::hand);
        }
    }

    private static void holeWithThoseBeside() {
        for (int way = FIRST; way <= WORST; way++) {
            HeapwrightLab x = filled(way);
            x.giveBack(1);
            dueHoles("between blocks", x, 300, 300);
            x.giveBack(3);
            dueHoles("at the end", x, 300, 300, 900, 124);
            x.giveBack(0);
            dueHoles("at the place 0, a hole behind", x, 0, 600, 900, 124);
            x.giveBack(2);
            dueHoles("the last one, a hole on both sides", x, 0, 1024);
            HeapwrightLab y = filled(way);
            y.giveBack(0);
            y.giveBack(1);
            dueHoles("a hole ahead", y, 0, 600);
        }
    }

    private static void joined() {
        for (int way = FIRST; way <= WORST; way++) {
            HeapwrightLab x = filled(way);
            int[] names = {1, 3, 0, 2};
            int[] joined = {0, 0, 1, 3};
            for (int i = 0; i < 4; i++) {
                x.giveBack(names[i]);
                due("name " + names[i] + " in way " + way, joined[i], () -> x.counted(2));
            }
            HeapwrightLab ahead = filled(way);
            ahead.giveBack(0);
            due("at the place 0", 0, () -> ahead.counted(2));
            ahead.giveBack(1);
            due("the hole ahead", 1, () -> ahead.counted(2));
            HeapwrightLab only = without(lab(way, 1, 0, 300), 0);
            due("the only one, the hole behind", 1, () -> only.counted(2));
            HeapwrightLab apart = without(lab(way, 1, 0, 10, 1, 10, 1, 10), 0, 4);
            due("the hole behind", 1, () -> apart.counted(2));
            apart.giveBack(2);
            due("holes that are not right beside it", 1, () -> apart.counted(2));
        }
    }
}
