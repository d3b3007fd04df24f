/** For each promise of the document: ordinary answers, the edges that it names, and wrong inputs. */
public final class PromisesTest extends LabChecks {
    private PromisesTest() {
    }

    public static void main(String[] args) {
        promise1NewObject();
        promise2Reset();
        promise3AskNamesAndLimits();
        promise3AskFits();
        promise3AskNext();
        promise3AskBuddies();
        promise3AskSlabs();
        promise3AskLargestSlabs();
        promise4GiveBack();
        promise4GiveBackBuddies();
        promise4GiveBackSlabs();
        promise5ResizeInPlace();
        promise5ResizeElsewhere();
        promise5ResizeBuddies();
        promise5ResizeSlabs();
        promise5ResizeWrong();
        promise6Together();
        promise7Open();
        promise8Close();
        promises9To12();
        promises13To16();
        promise17At();
        promises18To21();
        promise22PageClass();
        promise23Hand();
        promises24To27();
        promise28Counted();
        promise29Peak();
        promise30WouldBe();
        promise31Greatest();
        promise32Again();
        promise33BestWay();
        promise34LargestWithout();
        promise35Digest();
        nothingChangesWhatIsAsked();
        Checks.end();
    }

    private static void promise1NewObject() {
        HeapwrightLab x = new HeapwrightLab();
        dueBare("new", x, 0);
        due("new: first name", 0, () -> x.ask(10));
        due("new: room with STEP 4 and HEAD 2", 12, () -> x.room(0));
        due("new: second name", 1, () -> x.ask(11));
        due("new: room made up", 16, () -> x.room(1));
    }

    private static void promise2Reset() {
        HeapwrightLab x = new HeapwrightLab();
        due("reset: way before", 0, () -> x.reset(5, 1, 0));
        due("reset: way before", 5, () -> x.reset(1, 2, 8));
        due("reset: way before", 1, () -> x.reset(1, 1, 0));
        int[][] wrong = {{-1, 4, 2}, {6, 4, 2}, {Integer.MIN_VALUE, 4, 2}, {0, 0, 2}, {0, 3, 2}, {0, 5, 2}, {0, 16, 2},
            {0, -4, 2}, {0, Integer.MAX_VALUE, 2}, {0, 4, -1}, {0, 4, 9}, {0, 4, Integer.MIN_VALUE}};
        x.ask(300);
        for (int[] each : wrong) {
            due("reset: wrong", ARGUMENT, () -> x.reset(each[0], each[1], each[2]));
        }
        due("reset: a wrong one changes nothing", 1, x::way);
        due("reset: a wrong one changes nothing", 1, x::names);
        due("reset: a wrong one changes nothing", 300, x::used);
        x.open();
        x.ask(300);
        x.ask(300);
        x.ask(300);
        x.giveBack(1);
        x.resize(0, 20);
        x.together();
        for (int way = 5; way >= 0; way--) {
            int next = way;
            due("reset: way before", way == 5 ? 1 : way + 1, () -> x.reset(next, 4, 2));
            dueBare("reset to " + way, x, way);
            x.ask(200);
            x.giveBack(0);
            x.bestWay();
        }
        for (int way = 0; way < 6; way++) {
            int same = way;
            x.reset(way, 1, 0);
            x.ask(20);
            x.bestWay();
            due("reset: to the same way", way, () -> x.reset(same, 1, 0));
            dueBare("reset with blocks", x, way);
        }
        x.reset(0, 1, 0);
        due("reset: names begin anew", 0, () -> x.ask(7));
        due("reset: STEP 1, HEAD 0", 7, () -> x.room(0));
        x.reset(0, 8, 8);
        x.ask(1);
        due("reset: STEP 8, HEAD 8", 16, () -> x.room(0));
        x.reset(0, 2, 1);
        x.ask(2);
        due("reset: STEP 2, HEAD 1", 4, () -> x.room(0));
    }

    private static void promise3AskNamesAndLimits() {
        HeapwrightLab x = lab(0, 1, 0);
        for (int size : new int[] {0, -1, 301, Integer.MIN_VALUE, Integer.MAX_VALUE}) {
            due("ask: wrong size", ARGUMENT, () -> x.ask(size));
        }
        due("ask: a wrong one is no deed", 0, x::deeds);
        due("ask: a wrong one gives no name", 0, x::names);
        due("ask: greatest size", 0, () -> x.ask(300));
        due("ask: greatest size", 1, () -> x.ask(300));
        due("ask: greatest size", 2, () -> x.ask(300));
        due("ask: a name for what can't be had", 3, () -> x.ask(300));
        due("ask: not had", false, () -> x.isThere(3));
        due("ask: not had", -1, () -> x.place(3));
        due("ask: not had", 3, x::blocks);
        due("ask: not had is a deed", 4, x::deeds);
        dueCounts("ask: not had", x, 4, 3, 0, 0, 1);
        due("ask: least size behind it", 4, () -> x.ask(1));
        due("ask: place behind", 900, () -> x.place(4));
        due("ask: the rest", 5, () -> x.ask(123));
        dueHoles("ask: full", x);
        due("ask: nothing left", 6, () -> x.ask(1));
        dueCounts("ask: no hole to look at", x, 6, 4, 0, 0, 2);
        for (int name = 7; name < 80; name++) {
            int next = name;
            due("ask: name", next, () -> x.ask(1));
        }
        due("ask: 81st name", STATE, () -> x.ask(1));
        due("ask: wrong size goes first", ARGUMENT, () -> x.ask(0));
        due("ask: no deed of it", 80, x::deeds);
        due("ask: no count of it", 75, () -> x.counted(4));
        HeapwrightLab y = withDeeds(lab(0, 1, 0, 5), 149);
        due("ask: 150th deed", 1, () -> y.ask(1));
        due("ask: full trace", STATE, () -> y.ask(1));
        due("ask: full trace, wrong size", ARGUMENT, () -> y.ask(301));
        due("ask: full trace", 150, y::deeds);
        due("ask: full trace", 2, y::names);
    }

    private static void promise3AskFits() {
        int[] places = {0, 250, 110, 250};
        int[] looked = {7, 7, 10, 10};
        for (int way = 0; way < 4; way++) {
            HeapwrightLab x = fourHoles(way);
            dueHoles("four holes", x, 0, 100, 110, 50, 170, 70, 250, 774);
            due("ask 45 in way " + way, 6, () -> x.ask(45));
            due("place of 45 in way " + way, places[way], () -> x.place(6));
            dueCounts("45 in way " + way, x, looked[way], 7, 0, 0, 0);
        }
        HeapwrightLab first = fourHoles(0);
        first.ask(101);
        due("FIRST goes on to one that is large enough", 250, () -> first.place(6));
        due("FIRST looked at four", 10, () -> first.counted(0));
        first.ask(50);
        first.ask(50);
        due("FIRST fills a hole", 50, () -> first.place(8));
        dueCounts("no SPLIT if nothing is left", first, 12, 8, 0, 0, 0);
        HeapwrightLab best = lab(2, 1, 0, 20, 5, 20, 5, 30, 5);
        best.giveBack(0);
        best.giveBack(2);
        best.giveBack(4);
        best.ask(15);
        due("BEST takes the first of several", 0, () -> best.place(6));
        best.ask(20);
        due("BEST takes what is as large", 25, () -> best.place(7));
        dueCounts("BEST", best, 14, 7, 0, 0, 0);
        HeapwrightLab worst = lab(3, 1, 0, 300, 1, 300, 1, 300, 122);
        worst.giveBack(0);
        worst.giveBack(2);
        worst.ask(10);
        due("WORST takes the first of several", 0, () -> worst.place(6));
        worst.ask(10);
        due("WORST takes the one with the most", 301, () -> worst.place(7));
        dueCounts("WORST", worst, 10, 7, 0, 0, 0);
    }

    private static void promise3AskNext() {
        HeapwrightLab x = fourHoles(1);
        x.ask(45);
        due("NEXT: HAND behind the block", 295, x::hand);
        x.ask(300);
        x.ask(300);
        due("NEXT: HAND", 895, x::hand);
        x.ask(129);
        due("NEXT: HAND is 0 at the end", 0, x::hand);
        x.ask(60);
        due("NEXT: from the first hole", 0, () -> x.place(10));
        due("NEXT: HAND", 60, x::hand);
        int looked = x.counted(0);
        x.ask(60);
        due("NEXT: the third from the HAND", 170, () -> x.place(11));
        due("NEXT: looked at three", looked + 3, () -> x.counted(0));
        x.ask(20);
        due("NEXT: round to the first", 60, () -> x.place(12));
        due("NEXT: looked at two", looked + 5, () -> x.counted(0));
        due("NEXT: HAND", 80, x::hand);
        x.ask(51);
        due("NEXT: none is large enough", false, () -> x.isThere(13));
        due("NEXT: looked at all", looked + 8, () -> x.counted(0));
        due("NEXT: HAND stays", 80, x::hand);
        HeapwrightLab y = lab(1, 1, 0, 100, 100);
        y.giveBack(0);
        y.giveBack(1);
        due("NEXT: HAND within a hole", 200, y::hand);
        due("NEXT: the block is at its beginning", 0, () -> y.wouldBe(10));
        HeapwrightLab z = lab(1, 1, 0, 300, 300, 300, 100, 20);
        z.giveBack(0);
        z.giveBack(2);
        z.ask(4);
        due("NEXT: the rest at the end", 1020, () -> z.place(5));
        z.ask(10);
        z.giveBack(5);
        z.giveBack(4);
        z.ask(20);
        due("NEXT: a later hole ahead of an earlier one", 10, () -> z.place(7));
        HeapwrightLab none = lab(1, 1, 0, 300, 300, 300, 124);
        none.giveBack(1);
        none.ask(10);
        none.ask(290);
        none.giveBack(0);
        due("NEXT: HAND behind all holes", 600, none::hand);
        none.ask(20);
        due("NEXT: the first one of all", 0, () -> none.place(6));
        due("NEXT: looked at one", 7, () -> none.counted(0));
        HeapwrightLab exact = lab(1, 1, 0, 100, 10, 50, 10, 300, 300, 254);
        exact.giveBack(0);
        exact.ask(100);
        exact.giveBack(7);
        exact.giveBack(2);
        due("NEXT: HAND right behind a hole", 100, exact::hand);
        due("NEXT: that hole has no unit there", 110, () -> exact.wouldBe(10));
        HeapwrightLab behindAll = lab(1, 1, 0, 10, 300, 300, 300, 100);
        behindAll.giveBack(0);
        behindAll.ask(14);
        behindAll.ask(5);
        behindAll.together();
        due("NEXT: HAND behind the last one", 1019, behindAll::hand);
    }

    private static void promise3AskBuddies() {
        HeapwrightLab x = lab(4, 4, 2, 30);
        due("BUDDY: room", 32, () -> x.room(0));
        dueCounts("BUDDY: halved five times", x, 1, 5, 0, 0, 0);
        dueHoles("BUDDY", x, 32, 32, 64, 64, 128, 128, 256, 256, 512, 512);
        x.ask(60);
        due("BUDDY: as large", 64, () -> x.place(1));
        dueCounts("BUDDY: not halved", x, 6, 5, 0, 0, 0);
        x.ask(5);
        due("BUDDY: room 8 at least", 8, () -> x.room(2));
        due("BUDDY: the fewest", 32, () -> x.place(2));
        dueCounts("BUDDY: halved twice", x, 10, 7, 0, 0, 0);
        dueHoles("BUDDY", x, 40, 8, 48, 16, 128, 128, 256, 256, 512, 512);
        x.ask(6);
        due("BUDDY: 6 and HEAD are 8", 8, () -> x.room(3));
        x.ask(7);
        due("BUDDY: 7 and HEAD are 16", 16, () -> x.room(4));
        x.ask(255);
        due("BUDDY: 257 is 512", 512, () -> x.place(5));
        x.ask(254);
        due("BUDDY: 256 is 256", 256, () -> x.place(6));
        x.ask(127);
        due("BUDDY: not had", false, () -> x.isThere(7));
        due("BUDDY: FAILED", 1, () -> x.counted(4));
        due("BUDDY: HAND", 0, x::hand);
        HeapwrightLab y = lab(4, 1, 0, 8, 8, 8, 8);
        y.giveBack(2);
        y.giveBack(0);
        y.ask(1);
        due("BUDDY: the first of several", 0, () -> y.place(4));
        due("BUDDY: all holes are looked at", 20 + 7, () -> y.counted(0));
    }

    private static void promise3AskSlabs() {
        HeapwrightLab x = lab(5, 4, 0, 64, 64, 64);
        due("SLAB: first slot", 0, () -> x.place(0));
        due("SLAB: second slot", 64, () -> x.place(1));
        due("SLAB: next page", 128, () -> x.place(2));
        dueCounts("SLAB: pages of its class", x, 2, 2, 0, 0, 0);
        dueHoles("SLAB: free slots and pages", x, 192, 64, 256, 768);
        x.ask(33);
        due("SLAB: room 64", 192, () -> x.place(3));
        dueCounts("SLAB: full pages are looked at too", x, 4, 2, 0, 0, 0);
        x.ask(128);
        due("SLAB: class 128", 256, () -> x.place(4));
        dueCounts("SLAB: no SPLIT", x, 4, 2, 0, 0, 0);
        x.ask(65);
        due("SLAB: class 128", 384, () -> x.place(5));
        dueCounts("SLAB: full page of the class 128", x, 5, 2, 0, 0, 0);
        x.ask(129);
        due("SLAB: two pages", 512, () -> x.place(6));
        due("SLAB: room 256", 256, () -> x.room(6));
        dueCounts("SLAB: nothing looked at", x, 5, 2, 0, 0, 0);
        x.ask(257);
        due("SLAB: three pages are not had", -1, () -> x.place(7));
        dueCounts("SLAB: FAILED", x, 5, 2, 0, 0, 1);
        x.ask(8);
        x.ask(9);
        x.ask(32);
        due("SLAB: class 8", 768, () -> x.place(8));
        due("SLAB: class 16", 896, () -> x.place(9));
        due("SLAB: no page for the class 32", false, () -> x.isThere(10));
        x.ask(10);
        due("SLAB: next slot of 16", 912, () -> x.place(11));
        x.giveBack(8);
        x.ask(1);
        due("SLAB: a free page is of another class", 768, () -> x.place(12));
        x.giveBack(0);
        x.giveBack(3);
        int looked = x.counted(0);
        x.ask(50);
        due("SLAB: first page with a free slot", 0, () -> x.place(13));
        due("SLAB: up to that", looked + 1, () -> x.counted(0));
        HeapwrightLab y = lab(5, 1, 8, 120, 121, 248, 249);
        due("SLAB: HEAD is in the room", 128, () -> y.room(0));
        due("SLAB: HEAD is in the room", 256, () -> y.room(1));
        due("SLAB: HEAD is in the room", 256, () -> y.room(2));
        due("SLAB: HEAD is in the room", 384, () -> y.room(3));
        y.giveBack(0);
        y.giveBack(2);
        y.ask(249);
        due("SLAB: pages in a row", -1, () -> y.place(4));
        y.ask(200);
        due("SLAB: first pages in a row that are enough", 384, () -> y.place(5));
    }

    private static void promise3AskLargestSlabs() {
        HeapwrightLab x = lab(5, 1, 0, 128, 128, 128, 128, 128);
        due("SLAB: all pages of the class 128", 0 + 1 + 2 + 3 + 4, () -> x.counted(0));
        x.giveBack(0);
        x.giveBack(1);
        x.giveBack(3);
        x.ask(100);
        due("SLAB: the first free page", 0, () -> x.place(5));
        due("SLAB: all pages of the class 128", 10 + 2, () -> x.counted(0));
        HeapwrightLab y = lab(5, 1, 0, 64, 64, 64, 64);
        y.giveBack(2);
        dueHoles("SLAB: the first slot of a later page", y, 128, 64, 256, 768);
        y.giveBack(0);
        y.giveBack(3);
        dueHoles("SLAB: a slot beside a free page", y, 0, 64, 128, 896);
    }

    private static void promise4GiveBack() {
        HeapwrightLab x = lab(0, 4, 2, 9, 10, 11);
        due("giveBack: room", 12, () -> x.giveBack(0));
        dueCounts("giveBack: nothing beside it", x, 3, 3, 0, 0, 0);
        due("giveBack: room", 16, () -> x.giveBack(2));
        dueCounts("giveBack: joined behind", x, 3, 3, 1, 0, 0);
        due("giveBack: room", 12, () -> x.giveBack(1));
        dueCounts("giveBack: joined on both sides", x, 3, 3, 3, 0, 0);
        dueHoles("giveBack: all is one hole", x, 0, 1024);
        due("giveBack: gone", false, () -> x.isThere(1));
        due("giveBack: names stay", 3, x::names);
        due("giveBack: deeds", 6, x::deeds);
        HeapwrightLab ahead = lab(0, 1, 0, 10, 10, 10);
        ahead.giveBack(0);
        ahead.giveBack(1);
        due("giveBack: joined ahead", 1, () -> ahead.counted(2));
        HeapwrightLab next = lab(1, 1, 0, 10, 10);
        next.giveBack(1);
        due("giveBack: HAND stays", 20, next::hand);
        for (int name : new int[] {-1, 3, 80, Integer.MIN_VALUE, Integer.MAX_VALUE}) {
            due("giveBack: no such name", INDEX, () -> x.giveBack(name));
        }
        due("giveBack: not there any more", STATE, () -> x.giveBack(0));
        due("giveBack: no deed of it", 6, x::deeds);
        HeapwrightLab failed = lab(0, 1, 0, 300, 300, 300, 300);
        due("giveBack: never there", STATE, () -> failed.giveBack(3));
        HeapwrightLab full = withDeeds(lab(0, 1, 0, 5, 5), 149);
        due("giveBack: 150th deed", 5, () -> full.giveBack(0));
        due("giveBack: full trace", STATE, () -> full.giveBack(1));
        due("giveBack: full trace", true, () -> full.isThere(1));
        due("giveBack: full trace, no name", INDEX, () -> full.giveBack(2));
    }

    private static void promise4GiveBackBuddies() {
        HeapwrightLab x = lab(4, 4, 2, 30, 60, 5);
        due("BUDDY: room back", 8, () -> x.giveBack(2));
        dueCounts("BUDDY: joined twice", x, 10, 7, 2, 0, 0);
        dueHoles("BUDDY", x, 32, 32, 128, 128, 256, 256, 512, 512);
        due("BUDDY: room back", 32, () -> x.giveBack(0));
        dueCounts("BUDDY: joined once", x, 10, 7, 3, 0, 0);
        due("BUDDY: room back", 64, () -> x.giveBack(1));
        dueCounts("BUDDY: joined four times", x, 10, 7, 7, 0, 0);
        dueHoles("BUDDY", x, 0, 1024);
        HeapwrightLab y = lab(4, 1, 0, 8, 8, 8, 8);
        y.giveBack(1);
        y.giveBack(2);
        dueHoles("BUDDY: only the other half", y, 8, 8, 16, 8, 32, 32, 64, 64, 128, 128, 256, 256, 512, 512);
        due("BUDDY: none joined", 0, () -> y.counted(2));
    }

    private static void promise4GiveBackSlabs() {
        HeapwrightLab x = lab(5, 4, 0, 64, 64, 64, 128, 129);
        due("SLAB: room back", 64, () -> x.giveBack(0));
        dueCounts("SLAB: the page has a block", x, 2, 2, 0, 0, 0);
        dueHoles("SLAB", x, 0, 64, 192, 64, 640, 384);
        due("SLAB: room back", 64, () -> x.giveBack(1));
        dueCounts("SLAB: the page is free", x, 2, 2, 1, 0, 0);
        dueHoles("SLAB", x, 0, 128, 192, 64, 640, 384);
        due("SLAB: room back", 128, () -> x.giveBack(3));
        dueCounts("SLAB: class 128", x, 2, 2, 1, 0, 0);
        dueHoles("SLAB", x, 0, 128, 192, 64, 256, 128, 640, 384);
        due("SLAB: room back", 256, () -> x.giveBack(4));
        dueCounts("SLAB: larger", x, 2, 2, 1, 0, 0);
        dueHoles("SLAB: pages in a row", x, 0, 128, 192, 64, 256, 768);
        due("SLAB: room back", 64, () -> x.giveBack(2));
        dueCounts("SLAB: last one", x, 2, 2, 2, 0, 0);
        dueHoles("SLAB: bare", x, 0, 1024);
    }

    private static void promise5ResizeInPlace() {
        HeapwrightLab x = lab(0, 4, 2, 20, 20, 20);
        due("resize: same room", 0, () -> x.resize(0, 22));
        due("resize: size", 22, () -> x.size(0));
        due("resize: room", 24, () -> x.room(0));
        due("resize: wasted", 2 + 4 + 4, x::wasted);
        dueCounts("resize: same room", x, 3, 3, 0, 0, 0);
        due("resize: a deed", 4, x::deeds);
        due("resize: less, a block behind", 24, () -> x.resize(1, 10));
        dueCounts("resize: less, a block behind", x, 3, 3, 0, 0, 0);
        dueHoles("resize: less", x, 36, 12, 72, 952);
        due("resize: less again", 24, () -> x.resize(1, 5));
        dueCounts("resize: less, a hole behind", x, 3, 3, 1, 0, 0);
        dueHoles("resize: less", x, 32, 16, 72, 952);
        due("resize: more, something is left", 24, () -> x.resize(1, 9));
        dueCounts("resize: more, a SPLIT", x, 3, 4, 1, 0, 0);
        dueHoles("resize: more", x, 36, 12, 72, 952);
        due("resize: more, all of it", 24, () -> x.resize(1, 22));
        dueCounts("resize: more, no SPLIT", x, 3, 4, 1, 0, 0);
        dueHoles("resize: more", x, 72, 952);
        due("resize: up to the end", 48, () -> x.resize(2, 300));
        dueHoles("resize: more", x, 352, 672);
        due("resize: used", 24 + 24 + 304, x::used);
        HeapwrightLab next = lab(1, 1, 0, 10, 10);
        next.resize(1, 30);
        due("resize: HAND stays", 20, next::hand);
        next.resize(1, 5);
        due("resize: HAND stays", 20, next::hand);
    }

    private static void promise5ResizeElsewhere() {
        HeapwrightLab x = lab(0, 1, 0, 20, 20, 20);
        due("resize: elsewhere", 60, () -> x.resize(0, 50));
        due("resize: room there", 50, () -> x.room(0));
        due("resize: size there", 50, () -> x.size(0));
        due("resize: at", 0, () -> x.at(60));
        due("resize: at", -1, () -> x.at(0));
        dueCounts("resize: elsewhere", x, 4, 4, 0, 20, 0);
        due("resize: peak is behind the deed", 90, x::peak);
        due("resize: FAILED keeps the place", 20, () -> lab(0, 1, 0, 20, 20, 300, 300, 300).resize(1, 90));
        HeapwrightLab full = lab(0, 1, 0, 20, 20, 300, 300, 300);
        full.resize(1, 90);
        due("resize: FAILED keeps the size", 20, () -> full.size(1));
        dueCounts("resize: FAILED", full, 6, 5, 0, 0, 1);
        dueHoles("resize: FAILED", full, 940, 84);
        due("resize: FAILED is a deed", 6, full::deeds);
        HeapwrightLab there = lab(0, 1, 0, 300, 300, 300, 100);
        there.giveBack(0);
        there.resize(3, 290);
        due("resize: into the first", 0, () -> there.place(3));
        dueCounts("resize: given back behind", there, 5, 5, 1, 100, 0);
        HeapwrightLab old = lab(0, 1, 0, 300, 300, 300);
        old.giveBack(0);
        old.giveBack(2);
        old.ask(100);
        old.resize(1, 250);
        old.ask(280);
        old.resize(1, 300);
        due("resize: the hole behind is enough", 300, () -> old.place(1));
        HeapwrightLab beside = lab(0, 1, 0, 100, 10, 20);
        beside.giveBack(0);
        beside.resize(1, 40);
        due("resize: the hole ahead", 0, () -> beside.place(1));
        dueCounts("resize: the old one joins what is left", beside, 4, 4, 1, 10, 0);
        dueHoles("resize: the old one joins", beside, 40, 70, 130, 894);
        HeapwrightLab next = lab(1, 1, 0, 20, 20, 20);
        next.resize(0, 30);
        due("resize: HAND behind it", 90, next::hand);
        HeapwrightLab best = lab(2, 1, 0, 60, 5, 40, 5, 20, 5);
        best.giveBack(0);
        best.giveBack(2);
        best.resize(4, 35);
        due("resize: BEST", 65, () -> best.place(4));
        dueCounts("resize: BEST", best, 9, 7, 0, 20, 0);
    }

    private static void promise5ResizeBuddies() {
        HeapwrightLab x = lab(4, 4, 2, 30, 60);
        due("BUDDY: same room", 0, () -> x.resize(0, 17));
        dueCounts("BUDDY: same room", x, 6, 5, 0, 0, 0);
        due("BUDDY: less is elsewhere", 32, () -> x.resize(0, 10));
        dueCounts("BUDDY: less", x, 10, 6, 0, 10, 0);
        dueHoles("BUDDY: less", x, 0, 32, 48, 16, 128, 128, 256, 256, 512, 512);
        due("BUDDY: more", 128, () -> x.resize(0, 126));
        dueCounts("BUDDY: more", x, 15, 6, 2, 20, 0);
        HeapwrightLab y = lab(4, 1, 0, 300, 128, 128);
        due("BUDDY: FAILED keeps the place", 512, () -> y.resize(1, 257));
        due("BUDDY: FAILED", 1, () -> y.counted(4));
        due("BUDDY: FAILED keeps the room", 128, () -> y.room(1));
    }

    private static void promise5ResizeSlabs() {
        HeapwrightLab x = lab(5, 1, 0, 60, 60);
        due("SLAB: same room", 0, () -> x.resize(0, 64));
        due("SLAB: another class", 128, () -> x.resize(0, 32));
        dueCounts("SLAB: another class", x, 1, 2, 0, 32, 0);
        due("SLAB: and back", 0, () -> x.resize(0, 50));
        dueCounts("SLAB: and back", x, 2, 2, 1, 64, 0);
        due("SLAB: larger", 128, () -> x.resize(1, 300));
        dueCounts("SLAB: larger", x, 2, 2, 1, 124, 0);
        due("SLAB: the old one is there still", 512, () -> x.resize(1, 200));
        dueHoles("SLAB: larger", x, 64, 64, 128, 384, 768, 256);
        x.ask(300);
        x.ask(250);
        due("SLAB: FAILED", 512, () -> x.resize(1, 10));
        due("SLAB: FAILED", 1, () -> x.counted(4));
    }

    private static void promise5ResizeWrong() {
        HeapwrightLab x = lab(0, 1, 0, 20, 20);
        x.giveBack(1);
        for (int name : new int[] {-1, 2, Integer.MIN_VALUE, Integer.MAX_VALUE}) {
            due("resize: no such name", INDEX, () -> x.resize(name, 5));
            due("resize: no such name goes first", INDEX, () -> x.resize(name, 0));
        }
        for (int size : new int[] {0, -1, 301, Integer.MIN_VALUE, Integer.MAX_VALUE}) {
            due("resize: wrong size", ARGUMENT, () -> x.resize(0, size));
            due("resize: wrong size goes ahead of not there", ARGUMENT, () -> x.resize(1, size));
        }
        due("resize: not there", STATE, () -> x.resize(1, 5));
        due("resize: wrong ones are no deeds", 3, x::deeds);
        due("resize: wrong ones change nothing", 20, () -> x.size(0));
        withDeeds(x, 149);
        due("resize: 150th deed", 0, () -> x.resize(0, 21));
        due("resize: full trace", STATE, () -> x.resize(0, 22));
        due("resize: full trace", 21, () -> x.size(0));
    }

    private static void promise6Together() {
        for (int way = 0; way < 4; way++) {
            HeapwrightLab x = fourHoles(way);
            due("together: moved", 30, x::together);
            due("together: first", 0, () -> x.place(1));
            due("together: second", 10, () -> x.place(3));
            due("together: third", 20, () -> x.place(5));
            dueHoles("together", x, 30, 994);
            due("together: HAND with each way", 30, x::hand);
            dueCounts("together", x, 6, 6, 0, 30, 0);
            due("together: a deed", 10, x::deeds);
            due("together: nothing to move", 0, x::together);
            due("together: still a deed", 11, x::deeds);
            x.giveBack(1);
            x.giveBack(3);
            x.giveBack(5);
            due("together: no block", 0, x::together);
            due("together: HAND without any", 0, x::hand);
        }
        HeapwrightLab part = lab(0, 4, 2, 9, 30, 9, 50);
        part.giveBack(1);
        due("together: only those that come elsewhere, by room", 12 + 52, part::together);
        HeapwrightLab full = lab(0, 1, 0, 300, 300, 300, 124);
        due("together: full", 0, full::together);
        due("together: HAND at the end", 0, full::hand);
        due("together: with BUDDY", STATE, lab(4, 1, 0, 5)::together);
        due("together: with SLAB", STATE, lab(5, 1, 0, 5)::together);
        HeapwrightLab trace = withDeeds(lab(0, 1, 0, 5, 5), 149);
        due("together: 150th deed", 0, trace::together);
        due("together: full trace", STATE, trace::together);
    }

    private static void promise7Open() {
        HeapwrightLab x = lab(4, 1, 0);
        for (int many = 1; many <= 8; many++) {
            due("open", many, x::open);
        }
        due("open: a ninth", STATE, x::open);
        due("open: a ninth", 8, x::arenas);
        due("open: a ninth is no deed", 8, x::deeds);
        x.close();
        due("open: one more", 8, x::open);
        HeapwrightLab full = withDeeds(lab(0, 1, 0), 149);
        full.open();
        due("open: full trace", STATE, full::open);
        due("open: full trace", 150, full::deeds);
    }

    private static void promise8Close() {
        HeapwrightLab x = lab(0, 1, 0, 10);
        due("close: none is open", STATE, x::close);
        x.open();
        x.ask(10);
        x.ask(10);
        x.open();
        x.ask(10);
        x.ask(300);
        x.giveBack(1);
        x.resize(2, 40);
        due("close: what was asked for in it", 2, x::close);
        due("close: of the outer one", true, () -> x.isThere(2));
        x.ask(10);
        due("close: with what came behind the inner one", 2, x::close);
        due("close: of none", true, () -> x.isThere(0));
        due("close: blocks", 1, x::blocks);
        due("close: arenas", 0, x::arenas);
        due("close: again", STATE, x::close);
        due("close: deeds", 12, x::deeds);
        x.open();
        due("close: an empty one", 0, x::close);
        HeapwrightLab order = lab(5, 1, 0);
        order.open();
        order.ask(64);
        order.ask(64);
        due("close: slabs", 2, order::close);
        due("close: joined", 1, () -> order.counted(2));
        HeapwrightLab fits = lab(0, 1, 0);
        fits.open();
        fits.ask(10);
        fits.ask(10);
        fits.ask(10);
        fits.close();
        due("close: each one joins what is behind", 3, () -> fits.counted(2));
        HeapwrightLab failed = lab(0, 1, 0);
        failed.open();
        failed.ask(300);
        failed.ask(300);
        failed.ask(300);
        failed.ask(300);
        due("close: only what is there", 3, failed::close);
        HeapwrightLab full = lab(0, 1, 0);
        full.open();
        while (full.deeds() < 150) {
            full.together();
        }
        due("close: full trace", STATE, full::close);
        due("close: full trace", 1, full::arenas);
    }

    private static void promises9To12() {
        HeapwrightLab x = lab(3, 1, 0, 5, 5);
        due("way", 3, x::way);
        due("names", 2, x::names);
        due("deeds", 2, x::deeds);
        x.open();
        due("arenas", 1, x::arenas);
        x.giveBack(0);
        x.resize(1, 6);
        x.together();
        x.close();
        due("names: none is lost", 2, x::names);
        due("deeds: of all six kinds", 7, x::deeds);
        due("arenas", 0, x::arenas);
        x.reset(4, 1, 0);
        due("way", 4, x::way);
    }

    private static void promises13To16() {
        HeapwrightLab x = lab(0, 4, 2, 9, 30, 300, 300, 300, 300);
        x.giveBack(0);
        Object[][] want = {{false, -1, -1, -1}, {true, 12, 30, 32}, {true, 44, 300, 304}, {true, 348, 300, 304},
            {true, 652, 300, 304}, {false, -1, -1, -1}};
        for (int each = 0; each < want.length; each++) {
            int name = each;
            due("isThere", want[name][0], () -> x.isThere(name));
            due("place", want[name][1], () -> x.place(name));
            due("size", want[name][2], () -> x.size(name));
            due("room", want[name][3], () -> x.room(name));
        }
        for (int name : new int[] {-1, 6, 80, Integer.MIN_VALUE, Integer.MAX_VALUE}) {
            due("isThere: no such name", INDEX, () -> x.isThere(name));
            due("place: no such name", INDEX, () -> x.place(name));
            due("size: no such name", INDEX, () -> x.size(name));
            due("room: no such name", INDEX, () -> x.room(name));
        }
    }

    private static void promise17At() {
        HeapwrightLab x = lab(0, 4, 2, 9, 30);
        int[][] want = {{0, 0}, {11, 0}, {12, 1}, {43, 1}, {44, -1}, {1023, -1}};
        for (int[] each : want) {
            due("at", each[1], () -> x.at(each[0]));
        }
        for (int unit : new int[] {-1, 1024, Integer.MIN_VALUE, Integer.MAX_VALUE}) {
            due("at: no such unit", INDEX, () -> x.at(unit));
        }
        HeapwrightLab slab = lab(5, 1, 0, 9, 129);
        due("at: all of the room", 0, () -> slab.at(15));
        due("at: a free slot", -1, () -> slab.at(16));
        due("at: all of the pages", 1, () -> slab.at(383));
    }

    private static void promises18To21() {
        HeapwrightLab x = fourHoles(0);
        due("blocks", 3, x::blocks);
        dueHoles("holes", x, 0, 100, 110, 50, 170, 70, 250, 774);
        for (int hole : new int[] {-1, 4, Integer.MIN_VALUE, Integer.MAX_VALUE}) {
            due("holePlace: no such hole", INDEX, () -> x.holePlace(hole));
            due("holeSize: no such hole", INDEX, () -> x.holeSize(hole));
        }
        HeapwrightLab full = lab(0, 1, 0, 300, 300, 300, 124);
        due("holes: none", 0, full::holes);
        due("holePlace: none", INDEX, () -> full.holePlace(0));
        due("holeSize: none", INDEX, () -> full.holeSize(0));
        HeapwrightLab slots = lab(5, 1, 0, 8, 8, 8);
        slots.giveBack(1);
        due("holes: each free slot", 15, slots::holes);
        due("holePlace: a free slot", 8, () -> slots.holePlace(0));
        due("holePlace: a free slot", 24, () -> slots.holePlace(1));
        due("holeSize: all free pages", 896, () -> slots.holeSize(14));
        HeapwrightLab many = lab(5, 1, 0);
        for (int name = 0; name < 80; name++) {
            many.ask(8);
        }
        for (int name = 0; name < 70; name++) {
            if (name % 16 != 0) {
                many.giveBack(name);
            }
        }
        due("holes: most slots are free", 65 + 1, many::holes);
    }

    private static void promise22PageClass() {
        HeapwrightLab x = lab(5, 1, 0, 8, 16, 32, 64, 128, 129);
        int[] want = {8, 16, 32, 64, 128, -1, -1, 0};
        for (int each = 0; each < 8; each++) {
            int page = each;
            due("pageClass", want[page], () -> x.pageClass(page));
        }
        for (int page : new int[] {-1, 8, Integer.MIN_VALUE, Integer.MAX_VALUE}) {
            due("pageClass: no such page", INDEX, () -> x.pageClass(page));
        }
        x.giveBack(2);
        x.giveBack(5);
        due("pageClass: free again", 0, () -> x.pageClass(2));
        due("pageClass: free again", 0, () -> x.pageClass(6));
        for (int way = 0; way < 5; way++) {
            HeapwrightLab other = lab(way, 1, 0, 8);
            due("pageClass: another way", -1, () -> other.pageClass(0));
            due("pageClass: another way, no such page", INDEX, () -> other.pageClass(8));
        }
    }

    private static void promise23Hand() {
        for (int way = 0; way < 6; way++) {
            HeapwrightLab x = lab(way, 1, 0, 10, 20);
            due("hand in way " + way, way == 1 ? 30 : 0, x::hand);
        }
        HeapwrightLab first = lab(0, 1, 0, 10, 20, 30);
        first.giveBack(0);
        first.together();
        due("hand of FIRST behind the last one", 50, first::hand);
        first.ask(5);
        due("hand of FIRST stays", 50, first::hand);
        first.reset(1, 1, 0);
        due("hand after reset", 0, first::hand);
    }

    private static void promises24To27() {
        HeapwrightLab x = lab(0, 4, 2, 9, 30, 50);
        due("used", 12 + 32 + 52, x::used);
        due("wasted", 3 + 2 + 2, x::wasted);
        due("largest", 928, x::largest);
        due("broken: one hole", 0.0, x::broken);
        x.giveBack(1);
        due("used", 64, x::used);
        due("wasted", 5, x::wasted);
        due("broken", 32.0 / 960.0, x::broken);
        x.giveBack(0);
        x.ask(120);
        due("largest", 804, x::largest);
        due("broken", 44.0 / 848.0, x::broken);
        HeapwrightLab full = lab(0, 1, 0, 300, 300, 300, 124);
        due("largest: no hole", 0, full::largest);
        due("broken: no hole", 0.0, full::broken);
        due("used: all", 1024, full::used);
        due("wasted: nothing", 0, full::wasted);
        HeapwrightLab buddy = lab(4, 1, 0, 100);
        due("broken: halves are holes of their own", 384.0 / 896.0, buddy::broken);
    }

    private static void promise28Counted() {
        HeapwrightLab x = lab(0, 1, 0, 300, 10, 300, 300);
        x.giveBack(0);
        x.resize(1, 200);
        x.ask(300);
        x.giveBack(2);
        dueCounts("counted", x, 4 + 1 + 2, 5, 2, 10, 1);
        for (int what : new int[] {-1, 5, Integer.MIN_VALUE, Integer.MAX_VALUE}) {
            due("counted: wrong", ARGUMENT, () -> x.counted(what));
        }
    }

    private static void promise29Peak() {
        HeapwrightLab x = lab(0, 1, 0, 100, 200);
        due("peak", 300, x::peak);
        x.giveBack(0);
        due("peak: stays", 300, x::peak);
        x.resize(1, 299);
        due("peak: not reached", 300, x::peak);
        x.ask(50);
        due("peak: passed", 349, x::peak);
        HeapwrightLab moved = lab(0, 1, 0, 100, 100);
        moved.resize(0, 150);
        due("peak: not while it is there twice", 250, moved::peak);
        HeapwrightLab room = lab(4, 1, 0, 65);
        due("peak: of rooms", 128, room::peak);
    }

    private static void promise30WouldBe() {
        int[] places = {0, 250, 110, 250};
        for (int way = 0; way < 4; way++) {
            HeapwrightLab x = fourHoles(way);
            long before = x.digest();
            due("wouldBe in way " + way, places[way], () -> x.wouldBe(45));
            due("wouldBe: nothing is changed", before, x::digest);
        }
        HeapwrightLab buddy = lab(4, 4, 2, 30, 60);
        due("wouldBe: BUDDY", 32, () -> buddy.wouldBe(5));
        due("wouldBe: BUDDY", 512, () -> buddy.wouldBe(255));
        HeapwrightLab slab = lab(5, 1, 0, 64, 60);
        due("wouldBe: SLAB", 128, () -> slab.wouldBe(50));
        due("wouldBe: SLAB", 128, () -> slab.wouldBe(300));
        HeapwrightLab full = lab(0, 1, 0, 300, 300, 300, 100);
        due("wouldBe: all that is left", 1000, () -> full.wouldBe(24));
        due("wouldBe: not to be had", -1, () -> full.wouldBe(25));
        due("wouldBe: not counted", 0, () -> full.counted(4));
        for (int size : new int[] {0, -1, 301, Integer.MIN_VALUE, Integer.MAX_VALUE}) {
            due("wouldBe: wrong size", ARGUMENT, () -> full.wouldBe(size));
        }
        HeapwrightLab names = lab(0, 1, 0);
        for (int name = 0; name < 80; name++) {
            names.ask(1);
        }
        withDeeds(names, 150);
        due("wouldBe: as if names and deeds were enough", 80, () -> names.wouldBe(3));
    }

    private static void promise31Greatest() {
        due("greatest: bare", 300, new HeapwrightLab()::greatest);
        due("greatest: none", 0, lab(0, 1, 0, 300, 300, 300, 124)::greatest);
        due("greatest: all that is left", 24, lab(0, 1, 0, 300, 300, 300, 100)::greatest);
        due("greatest: one", 1, lab(0, 1, 0, 300, 300, 300, 123)::greatest);
        due("greatest: without HEAD and STEP", 30, lab(0, 8, 2, 294, 294, 294, 100)::greatest);
        due("greatest: HEAD takes all", 0, lab(0, 1, 8, 292, 292, 292, 108)::greatest);
        due("greatest: BUDDY", 255, lab(4, 1, 1, 300, 200)::greatest);
        HeapwrightLab slab = lab(5, 1, 0, 300, 300, 128, 64);
        due("greatest: SLAB", 64, slab::greatest);
        due("greatest: SLAB has none that is smaller", -1, () -> slab.wouldBe(32));
        due("greatest: SLAB, one page", 128, lab(5, 1, 0, 300, 300, 128)::greatest);
        due("greatest: SLAB, pages not in a row", 128, () -> {
            HeapwrightLab x = lab(5, 1, 0, 128, 128, 128, 128, 300, 128);
            x.giveBack(0);
            x.giveBack(2);
            return x.greatest();
        });
    }

    private static void promise32Again() {
        HeapwrightLab x = fourHoles(0);
        x.ask(45);
        int[][] want = {
            {7, 7, 0, 0, 0, 250, 4, 774},
            {7, 7, 0, 0, 0, 250, 4, 729},
            {10, 7, 0, 0, 0, 250, 4, 774},
            {10, 7, 0, 0, 0, 250, 4, 729}};
        for (int each = 0; each < 4; each++) {
            int way = each;
            for (int number = 0; number < 8; number++) {
                int what = number;
                due("again(" + way + ", " + what + ")", want[way][what], () -> x.again(way, what));
            }
        }
        for (int number : new int[] {-1, 6, Integer.MIN_VALUE, Integer.MAX_VALUE}) {
            due("again: wrong way", ARGUMENT, () -> x.again(number, 0));
        }
        for (int number : new int[] {-1, 8, Integer.MIN_VALUE, Integer.MAX_VALUE}) {
            due("again: wrong what", ARGUMENT, () -> x.again(0, number));
        }
        HeapwrightLab y = lab(0, 4, 0, 64, 64, 129);
        due("again: SLAB holes", 1, () -> y.again(5, 6));
        due("again: SLAB largest", 640, () -> y.again(5, 7));
        due("again: SLAB peak", 384, () -> y.again(5, 5));
        due("again: BUDDY splits", 4, () -> y.again(4, 1));
        y.giveBack(0);
        y.together();
        due("again: not put together", 0, () -> y.again(5, 3));
        due("again: SLAB holes", 2, () -> y.again(5, 6));
        due("again: BUDDY holes", 3, () -> y.again(4, 6));
        due("again: put together", 64 + 132, () -> y.again(3, 3));
        HeapwrightLab there = lab(4, 1, 0, 300, 257, 300);
        due("again: not there here", false, () -> there.isThere(2));
        due("again: there in another way", 857, () -> there.again(0, 5));
        HeapwrightLab gone = lab(0, 1, 0, 300, 257, 300);
        gone.giveBack(2);
        due("again: a deed of what is not there does nothing", 512 + 512, () -> gone.again(4, 5));
        due("again: none joined", 0, () -> gone.again(4, 2));
        due("again: one failed", 1, () -> gone.again(4, 4));
        gone.reset(0, 1, 8);
        gone.ask(1);
        due("again: HEAD as it is", 16, () -> gone.again(5, 5));
        HeapwrightLab arena = lab(4, 1, 0);
        arena.open();
        arena.ask(300);
        arena.ask(300);
        arena.ask(300);
        arena.close();
        due("again: arenas are closed", 1, () -> arena.again(0, 6));
        due("again: arenas are closed", 3, () -> arena.again(0, 2));
    }

    private static void promise33BestWay() {
        due("bestWay: nothing done", 0, new HeapwrightLab()::bestWay);
        due("bestWay: least peak", 0, lab(5, 4, 2, 30)::bestWay);
        HeapwrightLab peak = lab(0, 1, 0, 50, 300, 60, 300);
        peak.giveBack(0);
        peak.giveBack(2);
        for (int size : new int[] {300, 40, 55, 45}) {
            peak.ask(size);
        }
        int[] failed = {1, 1, 1, 1, 4, 1};
        int[] peaks = {995, 995, 995, 985, 1024, 960};
        for (int each = 0; each < 6; each++) {
            int way = each;
            due("bestWay: FAILED", failed[way], () -> peak.again(way, 4));
            due("bestWay: peak", peaks[way], () -> peak.again(way, 5));
        }
        due("bestWay: least peak of those that FAILED least", 5, peak::bestWay);
        HeapwrightLab best = lab(0, 1, 0, 300, 10, 200, 10, 300, 10, 194);
        best.giveBack(0);
        best.giveBack(2);
        best.ask(190);
        best.ask(300);
        due("bestWay: least FAILED", 2, best::bestWay);
        due("bestWay: FAILED of FIRST", 1, () -> best.again(0, 4));
        due("bestWay: FAILED of BEST", 0, () -> best.again(2, 4));
    }

    private static void promise34LargestWithout() {
        HeapwrightLab x = fourHoles(0);
        long before = x.digest();
        due("largestWithout: between two holes", 774, () -> x.largestWithout(1));
        due("largestWithout: joined with the largest", 70 + 10 + 774, () -> x.largestWithout(5));
        due("largestWithout: nothing is changed", before, x::digest);
        due("largestWithout: not there", STATE, () -> x.largestWithout(0));
        due("largestWithout: no such name", INDEX, () -> x.largestWithout(6));
        due("largestWithout: no such name", INDEX, () -> x.largestWithout(-1));
        HeapwrightLab full = withDeeds(lab(0, 1, 0, 300, 300, 300, 124), 150);
        due("largestWithout: alone, and with a full trace", 124, () -> full.largestWithout(3));
        HeapwrightLab buddy = lab(4, 1, 0, 300, 200, 100, 128);
        due("largestWithout: BUDDY", 128, () -> buddy.largestWithout(2));
        due("largestWithout: BUDDY", 512, () -> buddy.largestWithout(0));
        HeapwrightLab slab = lab(5, 1, 0, 64, 64, 300, 300, 128);
        due("largestWithout: SLAB, a slot", 64, () -> slab.largestWithout(0));
        due("largestWithout: SLAB, pages", 384, () -> slab.largestWithout(2));
        slab.giveBack(0);
        due("largestWithout: SLAB, the page", 128, () -> slab.largestWithout(1));
        slab.giveBack(2);
        due("largestWithout: SLAB, pages in a row", 512, () -> slab.largestWithout(1));
    }

    private static long digested(long... values) {
        long d = 2657;
        for (long value : values) {
            d = d * 31 + value;
        }
        return d;
    }

    private static void promise35Digest() {
        due("digest: new", digested(0, 0, 0, 0, 0, 0, 0, 1024, 0, 0, 0, 0, 0, 0, 0, 1, 0, 1024,
            -1, -1, -1, -1, -1, -1, -1, -1, 0, 0, 0, 0, 0, 0, 0, 0, 0, 0, 0, 0, 0, 0, 0), new HeapwrightLab()::digest);
        HeapwrightLab x = lab(5, 4, 2, 30, 300, 5);
        x.open();
        x.giveBack(0);
        due("digest: SLAB", digested(5, 3, 5, 1, 2, 392, 87, 384, 424, 0, 0, 2, 1, 0, 0,
            -1, -1, -1, 128, 300, 384, 512, 5, 8,
            17, 0, 128, 520, 8, 528, 8, 536, 8, 544, 8, 552, 8, 560, 8, 568, 8, 576, 8, 584, 8, 592, 8, 600, 8, 608, 8,
            616, 8, 624, 8, 632, 8, 640, 384,
            0, -1, -1, -1, 8, 0, 0, 0, 520, 0, 0,
            0, 344, 0, 344, 0, 344, 0, 344, 0, 552, 0, 424), x::digest);
        HeapwrightLab failed = lab(0, 1, 0, 300, 300, 300, 300);
        due("digest: FAILED", digested(0, 4, 4, 0, 3, 900, 0, 124, 900, 0, 4, 3, 0, 0, 1,
            0, 300, 300, 300, 300, 300, 600, 300, 300, -1, -1, -1, 1, 900, 124,
            -1, -1, -1, -1, -1, -1, -1, -1, 900, 900, 900,
            1, 900, 1, 900, 1, 900, 1, 900, 2, 1024, 2, 768), failed::digest);
        HeapwrightLab next = lab(1, 1, 0, 10, 20);
        next.giveBack(0);
        due("digest: NEXT", digested(1, 2, 3, 0, 1, 20, 0, 994, 30, 30, 2, 2, 0, 0, 0, -1, -1, -1, 10, 20, 20,
            2, 0, 10, 30, 994, -1, -1, -1, -1, -1, -1, -1, -1, 30, 30, 30,
            0, 30, 0, 30, 0, 30, 0, 30, 0, 48, 0, 48), next::digest);
    }

    private static void nothingChangesWhatIsAsked() {
        for (int way = 0; way < 6; way++) {
            HeapwrightLab x = lab(way, 2, 3, 50, 60, 70, 300, 300, 300, 9);
            x.giveBack(1);
            long before = x.digest();
            x.greatest();
            x.bestWay();
            for (int other = 0; other < 6; other++) {
                x.again(other, 0);
            }
            for (int size = 1; size <= 300; size++) {
                x.wouldBe(size);
            }
            x.largestWithout(0);
            x.largestWithout(2);
            due("questions change nothing in way " + way, before, x::digest);
        }
    }
}
