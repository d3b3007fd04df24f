import java.math.BigInteger;

/** The promises 1 to 35 of the document: for each sentence that names an edge a test of its own. */
public final class EdgesOfCallsTest extends LabChecks {
    private EdgesOfCallsTest() {
    }

    public static void main(String[] args) {
        deeds();
        whereEverythingIs();
        counts();
        whatWouldBe();
        Checks.end();
    }

    private static void deeds() {
        Checks.sentence("1: Creates a laboratory with a bare MEMORY", EdgesOfCallsTest::bareMemory);
        Checks.sentence("2: all BLOCKS, names, ARENAS, DEEDS and counts are gone, the HAND is 0", EdgesOfCallsTest::resetAll);
        Checks.sentence("2: Returns the WAY before", EdgesOfCallsTest::wayBefore);
        Checks.sentence("2: if way is not 0 to 5", EdgesOfCallsTest::resetWay);
        Checks.sentence("2: step is not 1, 2, 4 or 8", EdgesOfCallsTest::resetStep);
        Checks.sentence("2: or head is not 0 to 8", EdgesOfCallsTest::resetHead);
        Checks.sentence("3: Returns its name (see isThere())", EdgesOfCallsTest::askName);
        Checks.sentence("3: if size is not 1 to 300", EdgesOfCallsTest::askSize);
        Checks.sentence("3: if 80 names were given", EdgesOfCallsTest::askNames);
        Checks.sentence("3: or there are 150 DEEDS", EdgesOfCallsTest::askDeeds);
        Checks.sentence("4: Returns its ROOM", EdgesOfCallsTest::giveBackRoom);
        Checks.sentence("4: if there is no such name", EdgesOfCallsTest::giveBackName);
        Checks.sentence("4: if it is NOT THERE, or there are 150 DEEDS", EdgesOfCallsTest::giveBackState);
        Checks.sentence("5: Returns its place then (the old one, if it FAILED)", EdgesOfCallsTest::resizePlace);
        Checks.sentence("5: if there is no such name", EdgesOfCallsTest::resizeName);
        Checks.sentence("5: if size is not 1 to 300", EdgesOfCallsTest::resizeSize);
        Checks.sentence("5: if it is NOT THERE, or there are 150 DEEDS", EdgesOfCallsTest::resizeState);
        Checks.sentence("6: Returns how many UNITS were MOVED by that", EdgesOfCallsTest::togetherMoved);
        Checks.sentence("6: with the WAYS 4 and 5, or if there are 150 DEEDS", EdgesOfCallsTest::togetherState);
        Checks.sentence("7: Returns how many are open then", EdgesOfCallsTest::openMany);
        Checks.sentence("7: if 8 are open, or there are 150 DEEDS", EdgesOfCallsTest::openState);
        Checks.sentence("8: Returns how many BLOCKS were given back", EdgesOfCallsTest::closeMany);
        Checks.sentence("8: if none is open, or there are 150 DEEDS", EdgesOfCallsTest::closeState);
        Checks.sentence("9: Returns the WAY", EdgesOfCallsTest::way);
        Checks.sentence("10: Returns how many names were given", EdgesOfCallsTest::names);
        Checks.sentence("11: Returns how many DEEDS the TRACE has", EdgesOfCallsTest::deedsOfTrace);
        Checks.sentence("12: Returns how many ARENAS are open", EdgesOfCallsTest::arenas);
    }

    private static void whereEverythingIs() {
        Checks.sentence("13: whether its BLOCK is THERE; if there is no such name", EdgesOfCallsTest::isThere);
        Checks.sentence("14: the place of its BLOCK; -1 if it is NOT THERE; if there is no such name", EdgesOfCallsTest::place);
        Checks.sentence("15: the SIZE of its BLOCK; -1 if it is NOT THERE; if there is no such name", EdgesOfCallsTest::size);
        Checks.sentence("16: the ROOM of its BLOCK; -1 if it is NOT THERE; if there is no such name", EdgesOfCallsTest::room);
        Checks.sentence("17: the name of the BLOCK in which it is; -1, if it is in none", EdgesOfCallsTest::at);
        Checks.sentence("17: if there is no such UNIT", EdgesOfCallsTest::noSuchUnit);
        Checks.sentence("18: Returns how many BLOCKS are THERE", EdgesOfCallsTest::blocks);
        Checks.sentence("19: Returns how many HOLES there are", EdgesOfCallsTest::holes);
        Checks.sentence("20: a HOLE, by its place, from 0 on; if there is no such HOLE", EdgesOfCallsTest::holePlace);
        Checks.sentence("21: how many UNITS it has; if there is no such HOLE", EdgesOfCallsTest::holeSize);
        Checks.sentence("22: Returns its CLASS; 0 if it is free", EdgesOfCallsTest::pageClass);
        Checks.sentence("22: -1 if it is PART of a larger BLOCK, or the WAY is not 5", EdgesOfCallsTest::pageOfNoClass);
        Checks.sentence("22: if there is no such PAGE", EdgesOfCallsTest::noSuchPage);
        Checks.sentence("23: Returns the HAND", EdgesOfCallsTest::hand);
    }

    private static void counts() {
        Checks.sentence("24: Returns how many UNITS are in BLOCKS", EdgesOfCallsTest::used);
        Checks.sentence("25: all ROOMS less all SIZES", EdgesOfCallsTest::wasted);
        Checks.sentence("26: how many UNITS the largest HOLE has; 0 without any", EdgesOfCallsTest::largest);
        Checks.sentence("27: divided once by how many there are, not cut", EdgesOfCallsTest::broken);
        Checks.sentence("27: 0 without any HOLE", EdgesOfCallsTest::brokenWithoutHole);
        Checks.sentence("28: 4 FAILED (also of a BLOCK that was asked for)", EdgesOfCallsTest::counted);
        Checks.sentence("28: if what is not 0 to 4", EdgesOfCallsTest::countedWhat);
        Checks.sentence("29: Returns how many UNITS were in BLOCKS at most, behind a DEED", EdgesOfCallsTest::peak);
    }

    private static void whatWouldBe() {
        Checks.sentence("30: (as if names and DEEDS were always enough)", EdgesOfCallsTest::wouldBeEnough);
        Checks.sentence("30: -1 if it could not be had", EdgesOfCallsTest::wouldBeNone);
        Checks.sentence("30: if size is not 1 to 300", EdgesOfCallsTest::wouldBeSize);
        Checks.sentence("31: the greatest SIZE for which wouldBe() is not -1; 0 if there is none", EdgesOfCallsTest::greatest);
        Checks.sentence("32: 0 to 4 as with counted(), 5 peak(), 6 holes(), 7 largest() in the end", EdgesOfCallsTest::again);
        Checks.sentence("32: if way is not 0 to 5, or what is not 0 to 7", EdgesOfCallsTest::againWrong);
        Checks.sentence("33: the WAY by which, done AGAIN, the least FAILED", EdgesOfCallsTest::leastFailed);
        Checks.sentence("33: of several with the least peak()", EdgesOfCallsTest::leastPeak);
        Checks.sentence("33: of several the smallest", EdgesOfCallsTest::smallestWay);
        Checks.sentence("34: how many UNITS the largest HOLE would have, if its BLOCK was given back",
            EdgesOfCallsTest::largestWithout);
        Checks.sentence("34: if there is no such name; if it is NOT THERE", EdgesOfCallsTest::largestWithoutWrong);
        Checks.sentence("35: A number d starts with 2657", EdgesOfCallsTest::digestOfBare);
        Checks.sentence("35: which wraps around as a 64-bit integer, for each v in this order", EdgesOfCallsTest::digestWraps);
        Checks.sentence("35: wouldBe() of 1, 30 and 120", EdgesOfCallsTest::digestWouldBe);
        Checks.sentence("what would be (nothing is changed, nor counted)", EdgesOfCallsTest::nothingCounted);
    }

    private static void bareMemory() {
        dueBare("new", new HeapwrightLab(), 0);
        HeapwrightLab one = new HeapwrightLab();
        HeapwrightLab other = new HeapwrightLab();
        one.ask(5);
        one.open();
        dueBare("another one", other, 0);
        due("name", INDEX, () -> other.giveBack(0));
        due("largest", 1024, other::largest);
        due("broken", 0.0, other::broken);
        due("greatest", 300, other::greatest);
        due("would be", 0, () -> other.wouldBe(300));
        due("bestWay", 0, other::bestWay);
        due("arena", STATE, other::close);
        due("page", -1, () -> other.pageClass(0));
    }

    private static void resetAll() {
        for (int way = FIRST; way <= SLAB; way++) {
            for (int before = FIRST; before <= SLAB; before++) {
                HeapwrightLab x = lab(before, 8, 8, 100, 200, 30);
                x.giveBack(0);
                x.resize(1, 240);
                if (before <= WORST) {
                    x.together();
                }
                for (int many = 0; many < 8; many++) {
                    x.open();
                }
                x.ask(300);
                x.ask(300);
                x.bestWay();
                x.reset(way, 1, 0);
                dueBare("from " + before + " to " + way, x, way);
                due("no arena", STATE, x::close);
                for (int name = 0; name < 4; name++) {
                    int next = name;
                    due("the names begin anew", next, () -> x.ask(8));
                    dueBlock("STEP and HEAD, and the places begin anew", x, next, next * 8, 8, 8);
                }
                for (int other = FIRST; other <= SLAB; other++) {
                    int again = other;
                    due("again, in a bare one", 32, () -> x.again(again, 5));
                    due("again, none FAILED", 0, () -> x.again(again, 4));
                }
            }
        }
        HeapwrightLab full = withDeeds(withNames(lab(NEXT, 1, 0), 80), 150);
        full.reset(NEXT, 1, 0);
        dueBare("80 names, 150 DEEDS", full, NEXT);
        due("a DEED", 1, full::open);
    }

    private static void wayBefore() {
        HeapwrightLab x = new HeapwrightLab();
        due("FIRST at first", 0, () -> x.reset(5, 4, 2));
        for (int way = 5; way >= 0; way--) {
            int now = way;
            due("the same once more", now, () -> x.reset(now, 1, 8));
            due("another one", now, () -> x.reset(Math.max(now - 1, 0), 8, 0));
        }
    }

    private static void resetWay() {
        for (int way = 0; way <= 5; way++) {
            due("way " + way, way, lab(way, 1, 0)::way);
        }
        for (int way : new int[] {-1, 6, LEAST, GREATEST}) {
            HeapwrightLab x = lab(BEST, 2, 1, 4);
            dueRefused("way " + way, ARGUMENT, x, () -> x.reset(way, 1, 0));
        }
    }

    private static void resetStep() {
        for (int step : new int[] {1, 2, 4, 8}) {
            HeapwrightLab x = new HeapwrightLab();
            due("step " + step, 0, () -> x.reset(0, step, 0));
        }
        for (int step : new int[] {0, 3, 5, 7, 9, -1, 16, LEAST, GREATEST}) {
            HeapwrightLab x = lab(SLAB, 2, 1, 4);
            dueRefused("step " + step, ARGUMENT, x, () -> x.reset(0, step, 0));
        }
    }

    private static void resetHead() {
        for (int head : new int[] {0, 1, 7, 8}) {
            HeapwrightLab x = new HeapwrightLab();
            due("head " + head, 0, () -> x.reset(0, 1, head));
        }
        for (int head : new int[] {-1, 9, LEAST, GREATEST}) {
            HeapwrightLab x = lab(BUDDY, 2, 1, 4);
            dueRefused("head " + head, ARGUMENT, x, () -> x.reset(0, 1, head));
        }
    }

    private static void askName() {
        for (int way = FIRST; way <= SLAB; way++) {
            HeapwrightLab x = filled(way);
            due("the name of one that was not to be had", 4, () -> x.ask(1));
            due("it is not there", false, () -> x.isThere(4));
            x.giveBack(3);
            due("the name of one that was", 5, () -> x.ask(1));
            due("it is there", true, () -> x.isThere(5));
        }
    }

    private static void askSize() {
        for (int way = FIRST; way <= SLAB; way++) {
            HeapwrightLab x = lab(way, 1, 0);
            due("the least", 0, () -> x.ask(1));
            due("the greatest", 1, () -> x.ask(300));
            for (int size : WRONG_SIZES) {
                dueRefused("size " + size, ARGUMENT, x, () -> x.ask(size));
            }
        }
    }

    private static void askNames() {
        for (int way = FIRST; way <= SLAB; way++) {
            HeapwrightLab x = withNames(lab(way, 1, 0), 79);
            due("the 80th", 79, () -> x.ask(1));
            dueRefused("the 81st", STATE, x, () -> x.ask(1));
            due("there are DEEDS left", 80, x::deeds);
        }
    }

    private static void askDeeds() {
        HeapwrightLab x = withDeeds(lab(WORST, 1, 0), 149);
        due("the 150th", 0, () -> x.ask(1));
        dueRefused("the 151st", STATE, x, () -> x.ask(1));
        due("there are names left", 1, x::names);
    }

    private static void giveBackRoom() {
        for (int way = FIRST; way <= SLAB; way++) {
            HeapwrightLab x = lab(way, 8, 1, 9, 8);
            due("HEAD and STEP are in it", 16, () -> x.giveBack(0));
            HeapwrightLab least = lab(way, 1, 0, 1, 300);
            due("the least", way <= WORST ? 1 : 8, () -> least.giveBack(0));
            due("the greatest", way <= WORST ? 300 : way == BUDDY ? 512 : 384, () -> least.giveBack(1));
        }
        HeapwrightLab resized = lab(FIRST, 1, 0, 10);
        resized.resize(0, 20);
        due("the ROOM then", 20, () -> resized.giveBack(0));
    }

    private static void giveBackName() {
        for (int way = FIRST; way <= SLAB; way++) {
            HeapwrightLab x = lab(way, 1, 0, 5, 5);
            for (int name : new int[] {-1, 2, 79, 80, LEAST, GREATEST}) {
                dueRefused("name " + name, INDEX, x, () -> x.giveBack(name));
            }
            due("the last one", way <= WORST ? 5 : 8, () -> x.giveBack(1));
            HeapwrightLab bare = lab(way, 1, 0);
            dueRefused("no name was given", INDEX, bare, () -> bare.giveBack(0));
            HeapwrightLab most = withNames(lab(way, 1, 0), 80);
            due("the 80th", way <= WORST ? 1 : 8, () -> most.giveBack(79));
            dueRefused("behind the 80th", INDEX, most, () -> most.giveBack(80));
        }
    }

    private static void giveBackState() {
        for (int way = FIRST; way <= SLAB; way++) {
            HeapwrightLab x = without(filled(way), 2);
            dueRefused("a second time", STATE, x, () -> x.giveBack(2));
            HeapwrightLab failed = filled(way);
            failed.ask(1);
            dueRefused("it was not to be had", STATE, failed, () -> failed.giveBack(4));
            HeapwrightLab full = withDeeds(lab(way, 1, 0, 5, 5), 149);
            due("the 150th DEED", way <= WORST ? 5 : 8, () -> full.giveBack(0));
            dueRefused("the 151st", STATE, full, () -> full.giveBack(1));
        }
    }

    private static void resizePlace() {
        for (int way = FIRST; way <= WORST; way++) {
            HeapwrightLab x = lab(way, 1, 0, 10, 10);
            due("where it is", 10, () -> x.resize(1, 20));
            due("elsewhere", 30, () -> x.resize(0, 11));
            due("as it is told", 30, () -> x.place(0));
            due("less, where it is", 30, () -> x.resize(0, 1));
        }
        for (int way = FIRST; way <= SLAB; way++) {
            HeapwrightLab full = filled(way);
            int place = full.place(3);
            due("it FAILED", place, () -> full.resize(3, 300));
            due("FAILED", 1, () -> full.counted(4));
            due("the place 0", 0, () -> full.resize(0, 256));
        }
    }

    private static void resizeName() {
        for (int way = FIRST; way <= SLAB; way++) {
            HeapwrightLab x = lab(way, 1, 0, 5, 5);
            for (int name : new int[] {-1, 2, 79, 80, LEAST, GREATEST}) {
                dueRefused("name " + name, INDEX, x, () -> x.resize(name, 6));
            }
            HeapwrightLab bare = lab(way, 1, 0);
            dueRefused("no name was given", INDEX, bare, () -> bare.resize(0, 6));
            HeapwrightLab most = withNames(lab(way, 1, 0), 80);
            most.resize(79, 2);
            due("the 80th", 2, () -> most.size(79));
            dueRefused("behind the 80th", INDEX, most, () -> most.resize(80, 2));
        }
    }

    private static void resizeSize() {
        for (int way = FIRST; way <= SLAB; way++) {
            HeapwrightLab x = lab(way, 1, 0, 50);
            for (int size : WRONG_SIZES) {
                dueRefused("size " + size, ARGUMENT, x, () -> x.resize(0, size));
            }
            x.resize(0, 300);
            due("the greatest", 300, () -> x.size(0));
            x.resize(0, 1);
            due("the least", 1, () -> x.size(0));
        }
    }

    private static void resizeState() {
        for (int way = FIRST; way <= SLAB; way++) {
            HeapwrightLab x = without(filled(way), 2);
            dueRefused("it was given back", STATE, x, () -> x.resize(2, 1));
            HeapwrightLab failed = filled(way);
            failed.ask(1);
            dueRefused("it was not to be had", STATE, failed, () -> failed.resize(4, 1));
            HeapwrightLab full = withDeeds(lab(way, 1, 0, 5, 5), 149);
            full.resize(0, 6);
            due("the 150th DEED", 6, () -> full.size(0));
            dueRefused("the 151st", STATE, full, () -> full.resize(1, 6));
        }
    }

    private static void togetherMoved() {
        for (int way = FIRST; way <= WORST; way++) {
            HeapwrightLab x = without(lab(way, 1, 0, 10, 20, 30), 0);
            due("two", 50, x::together);
            x.giveBack(1);
            due("not those before", 30, x::together);
            due("none", 0, x::together);
            due("in all", 80, () -> x.counted(3));
            due("no block", 0, lab(way, 1, 0)::together);
        }
    }

    private static void togetherState() {
        for (int way = FIRST; way <= SLAB; way++) {
            HeapwrightLab x = lab(way, 1, 0, 5);
            if (way >= BUDDY) {
                dueRefused("way " + way, STATE, x, x::together);
            } else {
                due("way " + way, 0, x::together);
                withDeeds(x, 149);
                due("the 150th DEED", 0, x::together);
                dueRefused("the 151st", STATE, x, x::together);
            }
        }
    }

    private static void openMany() {
        HeapwrightLab x = new HeapwrightLab();
        for (int many = 1; many <= 8; many++) {
            due("one more", many, x::open);
        }
        x.close();
        x.close();
        due("two less, one more", 7, x::open);
    }

    private static void openState() {
        for (int way = FIRST; way <= SLAB; way++) {
            HeapwrightLab x = lab(way, 1, 0);
            for (int many = 0; many < 7; many++) {
                x.open();
            }
            due("the eighth", 8, x::open);
            dueRefused("a ninth", STATE, x, x::open);
            HeapwrightLab full = withDeeds(lab(way, 1, 0), 149);
            due("the 150th DEED", 2, full::open);
            dueRefused("the 151st", STATE, full, full::open);
        }
    }

    private static void closeMany() {
        for (int way = FIRST; way <= SLAB; way++) {
            HeapwrightLab x = lab(way, 1, 0, 1);
            x.open();
            due("none", 0, x::close);
            x.open();
            x.ask(1);
            due("one", 1, x::close);
            x.open();
            for (int many = 0; many < 77; many++) {
                x.ask(1);
            }
            due("all but two that were not asked for in it", 77, x::close);
            due("the first one is there", 1, x::blocks);
        }
        HeapwrightLab all = lab(FIRST, 1, 0);
        all.open();
        withNames(all, 80);
        due("80", 80, all::close);
        due("80 are JOINED", 80, () -> all.counted(2));
    }

    private static void closeState() {
        for (int way = FIRST; way <= SLAB; way++) {
            HeapwrightLab x = lab(way, 1, 0, 5);
            dueRefused("none is open", STATE, x, x::close);
            x.open();
            x.close();
            dueRefused("none is open any more", STATE, x, x::close);
            HeapwrightLab full = withDeeds(lab(way, 1, 0, 5, 5), 149);
            due("one is open", 1, full::arenas);
            due("the 150th DEED", 0, full::close);
            full.reset(way, 1, 0);
            full.open();
            withDeeds(full, 150);
            dueRefused("the 151st", STATE, full, full::close);
        }
    }

    private static void way() {
        HeapwrightLab x = new HeapwrightLab();
        due("at first", 0, x::way);
        for (int way = 5; way >= 0; way--) {
            x.reset(way, 1, 0);
            due("from reset", way, x::way);
        }
    }

    private static void names() {
        HeapwrightLab x = filled(FIRST);
        due("four", 4, x::names);
        x.ask(1);
        due("one that was not to be had", 5, x::names);
        x.giveBack(0);
        due("given back", 5, x::names);
        withNames(x, 80);
        due("the most", 80, x::names);
        due("none", 0, new HeapwrightLab()::names);
    }

    private static void deedsOfTrace() {
        HeapwrightLab x = new HeapwrightLab();
        due("none", 0, x::deeds);
        x.open();
        due("one", 1, x::deeds);
        due("the most", 150, withDeeds(x, 150)::deeds);
    }

    private static void arenas() {
        HeapwrightLab x = new HeapwrightLab();
        due("none", 0, x::arenas);
        for (int many = 1; many <= 8; many++) {
            x.open();
            due("one more", many, x::arenas);
        }
        x.close();
        due("one less", 7, x::arenas);
    }

    /** Name 0 is at the place 0, name 1 was given back, name 2 could not be had. */
    private static HeapwrightLab threeNames(int way) {
        HeapwrightLab x = lab(way, 1, 0, 8, 8);
        x.ask(300);
        x.ask(300);
        x.ask(300);
        x.ask(300);
        x.giveBack(1);
        return x;
    }

    private static void dueNoName(HeapwrightLab x, Checks.Call below, Checks.Call above, Checks.Call least, Checks.Call most) {
        due("the name -1", INDEX, below);
        due("the name behind the last one", INDEX, above);
        due("the least name", INDEX, least);
        due("the greatest name", INDEX, most);
        due("names", 6, x::names);
    }

    private static void isThere() {
        for (int way = FIRST; way <= SLAB; way++) {
            HeapwrightLab x = threeNames(way);
            due("there", true, () -> x.isThere(0));
            due("given back", false, () -> x.isThere(1));
            due("not to be had", false, () -> x.isThere(5));
            dueNoName(x, () -> x.isThere(-1), () -> x.isThere(6), () -> x.isThere(LEAST), () -> x.isThere(GREATEST));
            due("no name was given", INDEX, () -> new HeapwrightLab().isThere(0));
        }
    }

    private static void place() {
        for (int way = FIRST; way <= SLAB; way++) {
            HeapwrightLab x = threeNames(way);
            due("there", 0, () -> x.place(0));
            due("given back", -1, () -> x.place(1));
            due("not to be had", -1, () -> x.place(5));
            dueNoName(x, () -> x.place(-1), () -> x.place(6), () -> x.place(LEAST), () -> x.place(GREATEST));
            due("no name was given", INDEX, () -> new HeapwrightLab().place(0));
        }
    }

    private static void size() {
        for (int way = FIRST; way <= SLAB; way++) {
            HeapwrightLab x = threeNames(way);
            due("there", 8, () -> x.size(0));
            due("given back", -1, () -> x.size(1));
            due("not to be had", -1, () -> x.size(5));
            dueNoName(x, () -> x.size(-1), () -> x.size(6), () -> x.size(LEAST), () -> x.size(GREATEST));
            due("no name was given", INDEX, () -> new HeapwrightLab().size(0));
        }
    }

    private static void room() {
        for (int way = FIRST; way <= SLAB; way++) {
            HeapwrightLab x = threeNames(way);
            due("there", 8, () -> x.room(0));
            due("given back", -1, () -> x.room(1));
            due("not to be had", -1, () -> x.room(5));
            dueNoName(x, () -> x.room(-1), () -> x.room(6), () -> x.room(LEAST), () -> x.room(GREATEST));
            due("no name was given", INDEX, () -> new HeapwrightLab().room(0));
        }
    }

    private static void at() {
        HeapwrightLab x = without(lab(FIRST, 8, 8, 1, 1, 1), 1);
        int[][] unitName = {{0, 0}, {15, 0}, {16, -1}, {31, -1}, {32, 2}, {47, 2}, {48, -1}, {1023, -1}};
        for (int[] each : unitName) {
            due("the unit " + each[0], each[1], () -> x.at(each[0]));
        }
        HeapwrightLab full = filled(FIRST);
        int[][] of = {{0, 0}, {299, 0}, {300, 1}, {599, 1}, {600, 2}, {899, 2}, {900, 3}, {1023, 3}};
        for (int[] each : of) {
            due("the unit " + each[0], each[1], () -> full.at(each[0]));
        }
        HeapwrightLab slab = lab(SLAB, 1, 0, 9, 129);
        int[][] in = {{0, 0}, {15, 0}, {16, -1}, {127, -1}, {128, 1}, {383, 1}, {384, -1}};
        for (int[] each : in) {
            due("the unit " + each[0], each[1], () -> slab.at(each[0]));
        }
    }

    private static void noSuchUnit() {
        for (int way = FIRST; way <= SLAB; way++) {
            HeapwrightLab x = filled(way);
            for (int unit : new int[] {-1, 1024, LEAST, GREATEST}) {
                due("the unit " + unit, INDEX, () -> x.at(unit));
            }
        }
    }

    private static void blocks() {
        for (int way = FIRST; way <= SLAB; way++) {
            HeapwrightLab x = lab(way, 1, 0);
            due("none", 0, x::blocks);
            withNames(x, 80);
            due("the most", 80, x::blocks);
            x.giveBack(79);
            due("one less", 79, x::blocks);
            HeapwrightLab full = filled(way);
            full.ask(1);
            due("those that are there", 4, full::blocks);
        }
    }

    private static void holes() {
        for (int way = FIRST; way <= SLAB; way++) {
            due("bare", 1, lab(way, 1, 0)::holes);
            due("full", 0, filled(way)::holes);
            due("between and at the end", 2, without(filled(way), 1, 3)::holes);
        }
        HeapwrightLab most = withNames(lab(FIRST, 1, 0), 80);
        for (int name = 0; name < 70; name += 2) {
            most.giveBack(name);
        }
        due("many of one unit", 35 + 1, most::holes);
        HeapwrightLab slots = lab(SLAB, 1, 0);
        for (int name = 0; name < 80; name++) {
            slots.ask(8);
        }
        due("five full pages", 1, slots::holes);
        for (int name = 1; name < 64; name++) {
            if (name % 16 != 0) {
                slots.giveBack(name);
            }
        }
        due("slots of four pages", 60 + 1, slots::holes);
    }

    private static void holePlace() {
        for (int way = FIRST; way <= SLAB; way++) {
            HeapwrightLab x = without(filled(way), 1, 3);
            due("the first", way <= WORST ? 300 : 256, () -> x.holePlace(0));
            due("the last", way <= WORST ? 900 : 768, () -> x.holePlace(1));
            for (int hole : new int[] {-1, 2, LEAST, GREATEST}) {
                due("the hole " + hole, INDEX, () -> x.holePlace(hole));
            }
            HeapwrightLab full = filled(way);
            due("there is none", INDEX, () -> full.holePlace(0));
            due("of a bare memory", 0, () -> new HeapwrightLab().holePlace(0));
        }
    }

    private static void holeSize() {
        for (int way = FIRST; way <= SLAB; way++) {
            HeapwrightLab x = without(filled(way), 1, 3);
            due("the first", way <= WORST ? 300 : 256, () -> x.holeSize(0));
            due("the last", way <= WORST ? 124 : 256, () -> x.holeSize(1));
            for (int hole : new int[] {-1, 2, LEAST, GREATEST}) {
                due("the hole " + hole, INDEX, () -> x.holeSize(hole));
            }
            HeapwrightLab full = filled(way);
            due("there is none", INDEX, () -> full.holeSize(0));
            due("of a bare memory", 1024, () -> new HeapwrightLab().holeSize(0));
        }
    }

    private static void pageClass() {
        HeapwrightLab x = lab(SLAB, 1, 0, 8, 9, 17, 33, 65, 64, 1);
        int[] classes = {8, 16, 32, 64, 128, 0, 0, 0};
        for (int page = 0; page < 8; page++) {
            int each = page;
            due("the page " + page, classes[each], () -> x.pageClass(each));
        }
        x.giveBack(0);
        due("a block is left in it", 8, () -> x.pageClass(0));
        x.giveBack(6);
        due("none is left in it", 0, () -> x.pageClass(0));
        x.giveBack(4);
        due("of the class 128, none is left", 0, () -> x.pageClass(4));
    }

    private static void pageOfNoClass() {
        HeapwrightLab x = lab(SLAB, 1, 0, 129, 300);
        int[] classes = {-1, -1, -1, -1, -1, 0, 0, 0};
        for (int page = 0; page < 8; page++) {
            int each = page;
            due("the page " + page, classes[each], () -> x.pageClass(each));
        }
        x.giveBack(0);
        due("given back", 0, () -> x.pageClass(0));
        due("given back", 0, () -> x.pageClass(1));
        due("there still", -1, () -> x.pageClass(2));
        for (int way = FIRST; way <= BUDDY; way++) {
            HeapwrightLab other = lab(way, 1, 0, 8);
            for (int page = 0; page < 8; page++) {
                int each = page;
                due("way " + way, -1, () -> other.pageClass(each));
            }
        }
    }

    private static void noSuchPage() {
        for (int way = FIRST; way <= SLAB; way++) {
            HeapwrightLab x = lab(way, 1, 0, 8);
            for (int page : new int[] {-1, 8, LEAST, GREATEST}) {
                due("way " + way + ", page " + page, INDEX, () -> x.pageClass(page));
            }
        }
    }

    private static void hand() {
        HeapwrightLab x = lab(NEXT, 1, 0);
        due("at first", 0, x::hand);
        x.ask(1);
        due("behind the block", 1, x::hand);
        HeapwrightLab last = lab(NEXT, 1, 0, 300, 300, 300, 123);
        due("the last unit", 1023, last::hand);
        last.ask(1);
        due("the end", 0, last::hand);
        for (int way : new int[] {FIRST, BEST, WORST}) {
            HeapwrightLab y = lab(way, 1, 0, 5);
            due("as none is put together", 0, y::hand);
            y.together();
            due("as they are together", 5, y::hand);
            y.ask(5);
            y.giveBack(0);
            y.resize(1, 6);
            due("until they are once more", 5, y::hand);
        }
        for (int way : new int[] {BUDDY, SLAB}) {
            HeapwrightLab y = lab(way, 1, 0, 5);
            due("always", 0, y::hand);
        }
    }

    private static void used() {
        for (int way = FIRST; way <= SLAB; way++) {
            due("none", 0, lab(way, 1, 0)::used);
            due("all", 1024, filled(way)::used);
            due("those of one less", 1024 - (way <= WORST ? 124 : 256), without(filled(way), 3)::used);
            HeapwrightLab x = lab(way, 8, 8, 300);
            due("by ROOM", way <= WORST ? 312 : way == BUDDY ? 512 : 384, x::used);
        }
    }

    private static void wasted() {
        for (int way = FIRST; way <= SLAB; way++) {
            due("no block", 0, lab(way, 8, 8)::wasted);
            due("nothing", 0, filled(way)::wasted);
            HeapwrightLab x = lab(way, 8, 8, 1, 1);
            due("15 of 16", 30, x::wasted);
            x.resize(0, 8);
            due("the SIZE then", 23, x::wasted);
            x.giveBack(1);
            due("those that are there", 8, x::wasted);
            due("of the greatest", way <= WORST ? 12 : way == BUDDY ? 212 : 84, lab(way, 8, 8, 300)::wasted);
        }
    }

    private static void largest() {
        for (int way = FIRST; way <= SLAB; way++) {
            due("bare", 1024, lab(way, 1, 0)::largest);
            due("without any", 0, filled(way)::largest);
            due("the first of two", way <= WORST ? 300 : 256, without(filled(way), 1, 3)::largest);
        }
        due("the last", 1024 - 250, fourHoles(FIRST)::largest);
        due("of one unit", 1, lab(FIRST, 1, 0, 300, 300, 300, 123)::largest);
    }

    private static void broken() {
        due("one hole", 0.0, new HeapwrightLab()::broken);
        due("one hole of one unit", 0.0, lab(FIRST, 1, 0, 300, 300, 300, 123)::broken);
        due("two of 256", 0.5, without(filled(BUDDY), 1, 3)::broken);
        due("three of 256", 512.0 / 768.0, without(lab(SLAB, 1, 0, 256, 128, 256, 128, 256), 0, 2, 4)::broken);
        due("300 and 124", 124.0 / 424.0, without(filled(WORST), 1, 3)::broken);
        due("a part of one unit", 1.0 / 1023.0, without(lab(FIRST, 1, 0, 1, 1), 0)::broken);
        due("slots", 120.0 / 1016.0, lab(SLAB, 1, 0, 8)::broken);
        due("halves", 504.0 / 1016.0, lab(BUDDY, 1, 0, 8)::broken);
    }

    private static void brokenWithoutHole() {
        for (int way = FIRST; way <= SLAB; way++) {
            due("way " + way, 0.0, filled(way)::broken);
        }
    }

    private static void counted() {
        for (int way = FIRST; way <= SLAB; way++) {
            HeapwrightLab x = filled(way);
            due("none", 0, () -> x.counted(4));
            x.ask(1);
            due("asked for", 1, () -> x.counted(4));
            x.resize(3, 300);
            due("made larger", 2, () -> x.counted(4));
            x.giveBack(3);
            x.ask(1);
            due("had", 2, () -> x.counted(4));
        }
    }

    private static void countedWhat() {
        for (int way = FIRST; way <= SLAB; way++) {
            HeapwrightLab x = lab(way, 1, 0);
            for (int number = 0; number <= 4; number++) {
                int what = number;
                due("what " + what, 0, () -> x.counted(what));
            }
            for (int what : new int[] {-1, 5, 6, 7, LEAST, GREATEST}) {
                due("what " + what, ARGUMENT, () -> x.counted(what));
            }
        }
    }

    private static void peak() {
        for (int way = FIRST; way <= SLAB; way++) {
            HeapwrightLab x = lab(way, 1, 0);
            due("no DEED", 0, x::peak);
            due("all", 1024, without(filled(way), 0, 1, 2, 3)::peak);
            x.ask(64);
            x.ask(64);
            x.giveBack(0);
            x.ask(64);
            due("as many once more", 128, x::peak);
            x.ask(1);
            due("one more", way <= WORST ? 129 : 136, x::peak);
        }
        HeapwrightLab fit = lab(FIRST, 1, 0, 100, 100);
        fit.resize(0, 101);
        due("behind the DEED, not within it", 201, fit::peak);
        HeapwrightLab buddy = lab(BUDDY, 1, 0, 256);
        buddy.resize(0, 300);
        due("behind the DEED, not within it", 512, buddy::peak);
        HeapwrightLab slab = lab(SLAB, 1, 0, 256);
        slab.resize(0, 128);
        due("less, behind the DEED", 256, slab::peak);
    }

    private static void wouldBeEnough() {
        for (int way = FIRST; way <= SLAB; way++) {
            HeapwrightLab x = withNames(lab(way, 1, 0), 80);
            int place = way <= WORST ? 80 : 640;
            due("80 names", place, () -> x.wouldBe(8));
            withDeeds(x, 150);
            due("150 DEEDS", place, () -> x.wouldBe(8));
            due("it could not be asked for", STATE, () -> x.ask(8));
            due("the greatest", way == BUDDY ? 256 : 300, x::greatest);
        }
    }

    private static void wouldBeNone() {
        for (int way = FIRST; way <= SLAB; way++) {
            HeapwrightLab x = filled(way);
            due("no hole", -1, () -> x.wouldBe(1));
            x.giveBack(0);
            int most = way <= WORST ? 300 : 256;
            due("just enough", 0, () -> x.wouldBe(most));
            if (way > WORST) {
                due("one too few", -1, () -> x.wouldBe(257));
            }
            due("nothing FAILED", 0, () -> x.counted(4));
        }
        HeapwrightLab last = lab(FIRST, 1, 0, 300, 300, 300, 100);
        due("just enough", 1000, () -> last.wouldBe(24));
        due("one too few", -1, () -> last.wouldBe(25));
        HeapwrightLab made = lab(FIRST, 8, 1, 300, 300, 295);
        dueHoles("made up", made, 904, 120);
        due("119 and 1", 904, () -> made.wouldBe(119));
        due("120 and 1, made up", -1, () -> made.wouldBe(120));
    }

    private static void wouldBeSize() {
        for (int way = FIRST; way <= SLAB; way++) {
            HeapwrightLab x = lab(way, 1, 0);
            due("the least", 0, () -> x.wouldBe(1));
            due("the greatest", 0, () -> x.wouldBe(300));
            HeapwrightLab full = filled(way);
            for (int size : WRONG_SIZES) {
                due("size " + size, ARGUMENT, () -> x.wouldBe(size));
                due("size " + size + ", no hole", ARGUMENT, () -> full.wouldBe(size));
            }
        }
    }

    private static void greatest() {
        for (int way = FIRST; way <= SLAB; way++) {
            due("bare", 300, lab(way, 8, 8)::greatest);
            due("no hole", 0, filled(way)::greatest);
        }
        due("a hole of 300", 300, without(filled(BEST), 1)::greatest);
        due("a hole of 124", 124, without(filled(NEXT), 3)::greatest);
        due("a hole of 299", 299, lab(FIRST, 1, 0, 300, 300, 125)::greatest);
        due("a hole of 307, with HEAD 8", 299, lab(FIRST, 1, 8, 292, 292, 109)::greatest);
        due("a hole of 308, with HEAD 8", 300, lab(FIRST, 1, 8, 292, 292, 108)::greatest);
        due("a hole of 1", 1, lab(FIRST, 1, 0, 300, 300, 300, 123)::greatest);
        due("a hole of 8, with HEAD 7", 1, lab(FIRST, 8, 7, 300, 300, 273, 105)::greatest);
        due("a hole of 8, with HEAD 8", 0, lab(FIRST, 8, 8, 300, 300, 272, 104)::greatest);
        due("a hole of 16, with HEAD 8", 8, lab(FIRST, 8, 8, 300, 300, 272, 96)::greatest);
        due("BUDDY: 8, with HEAD 7", 1, lab(BUDDY, 1, 7, 300, 249, 121, 57, 25, 9, 1)::greatest);
        due("BUDDY: 256", 256, without(filled(BUDDY), 1, 2)::greatest);
        due("SLAB: two pages", 256, without(filled(SLAB), 1)::greatest);
        due("SLAB: four pages", 300, without(filled(SLAB), 1, 2)::greatest);
        HeapwrightLab slots = lab(SLAB, 1, 0, 300, 300, 16, 33);
        due("SLAB: a slot of 64", 64, slots::greatest);
        due("SLAB: slots of 16 too", 784, () -> slots.wouldBe(16));
        due("SLAB: none of 32 between them", -1, () -> slots.wouldBe(17));
        HeapwrightLab one = lab(SLAB, 1, 7, 300, 300, 120, 1);
        due("SLAB: a slot of 8, with HEAD 7", 1, one::greatest);
    }

    private static void again() {
        HeapwrightLab x = lab(FIRST, 1, 0, 300, 10, 300, 300);
        x.giveBack(0);
        x.resize(1, 200);
        x.ask(300);
        int[][] due = {
            {4 + 1 + 2, 5, 1, 10, 1, 910, 2, 114},
            {4 + 2 + 2, 5, 1, 10, 1, 910, 2, 114},
            {4 + 2 + 2, 5, 1, 10, 1, 910, 2, 114},
            {4 + 2 + 2, 5, 1, 10, 1, 910, 2, 114},
            {1 + 1 + 5 + 5 + 6 + 2, 1 + 5, 4, 10, 2, 512 + 256, 1, 256},
            {0, 1, 1, 10, 2, 384 + 16 + 384, 2, 256}};
        for (int number = 0; number < 8; number++) {
            int what = number;
            for (int each = FIRST; each <= SLAB; each++) {
                int way = each;
                due("way " + way + ", what " + what, due[way][what], () -> x.again(way, what));
            }
        }
        HeapwrightLab gone = without(filled(FIRST), 0, 1, 2, 3);
        due("in the end: holes", 1, () -> gone.again(FIRST, 6));
        due("in the end: largest", 1024, () -> gone.again(FIRST, 7));
        due("at most: peak", 1024, () -> gone.again(FIRST, 5));
        HeapwrightLab full = filled(FIRST);
        due("holes: none", 0, () -> full.again(WORST, 6));
        due("largest: without any", 0, () -> full.again(WORST, 7));
    }

    private static void againWrong() {
        for (int present = FIRST; present <= SLAB; present++) {
            HeapwrightLab x = lab(present, 1, 0);
            for (int way : new int[] {-1, 6, LEAST, GREATEST}) {
                due("way " + way, ARGUMENT, () -> x.again(way, 0));
                due("way " + way, ARGUMENT, () -> x.again(way, 7));
                due("way " + way + ", a wrong what", ARGUMENT, () -> x.again(way, 8));
            }
            for (int what : new int[] {-1, 8, LEAST, GREATEST}) {
                due("what " + what, ARGUMENT, () -> x.again(0, what));
                due("what " + what, ARGUMENT, () -> x.again(5, what));
            }
            due("the least of both", 0, () -> x.again(0, 0));
            due("the greatest of both", 1024, () -> x.again(5, 7));
        }
    }

    /** A run of DEEDS with FIRST: a SIZE that is asked for, or, below 1, a name (its negative) that is given back. */
    private static HeapwrightLab run(int... deeds) {
        HeapwrightLab x = lab(FIRST, 1, 0);
        for (int deed : deeds) {
            if (deed > 0) {
                x.ask(deed);
            } else {
                x.giveBack(-deed);
            }
        }
        return x;
    }

    private static void dueBest(int best, int[] failed, int[] peaks, HeapwrightLab x) {
        for (int each = FIRST; each <= SLAB; each++) {
            int way = each;
            due("FAILED of way " + way, failed[way], () -> x.again(way, 4));
            due("peak of way " + way, peaks[way], () -> x.again(way, 5));
        }
        due("the best", best, x::bestWay);
    }

    private static void leastFailed() {
        dueBest(0, new int[] {0, 1, 1, 1, 2, 1}, new int[] {970, 760, 760, 760, 896, 1024},
            run(280, 190, 0, 300, 110, 160, 210));
        dueBest(1, new int[] {1, 0, 1, 1, 1, 1}, new int[] {650, 950, 650, 650, 1024, 896},
            run(300, 300, 0, 200, 150, 300));
        dueBest(2, new int[] {1, 1, 0, 1, 2, 1}, new int[] {760, 760, 1000, 760, 784, 912},
            run(270, 220, 0, 10, 300, 230, 240));
        dueBest(3, new int[] {1, 1, 1, 0, 1, 1}, new int[] {760, 760, 760, 830, 1024, 896},
            run(250, 300, 0, 230, 230, -2, 300, -3));
        dueBest(4, new int[] {1, 1, 1, 1, 0, 1}, new int[] {530, 530, 530, 530, 1024, 768},
            run(140, 100, 220, 70, -2, 0, 230, 300));
        dueBest(5, new int[] {1, 1, 1, 1, 2, 1}, new int[] {980, 980, 980, 980, 704, 960}, run(300, 80, 300, 300, 50));
    }

    private static void leastPeak() {
        dueBest(1, new int[] {1, 1, 1, 2, 2, 2}, new int[] {910, 870, 910, 620, 896, 832},
            run(280, 40, 300, 0, 220, 300, 50, 260));
        dueBest(3, new int[] {1, 1, 1, 1, 2, 2}, new int[] {830, 830, 830, 810, 800, 672},
            run(300, 220, 0, 300, 30, 280, 260));
        dueBest(4, new int[] {1, 1, 1, 1, 1, 1}, new int[] {910, 910, 910, 910, 896, 1024}, run(240, 120, 250, 300, 200));
        dueBest(5, new int[] {1, 1, 1, 1, 1, 1}, new int[] {860, 860, 860, 860, 1024, 768}, run(260, 300, 300, 0, 300));
        dueBest(0, new int[] {0, 0, 0, 1, 1, 1}, new int[] {810, 810, 810, 510, 800, 672}, run(300, 180, 0, 300, 30, 300));
    }

    private static void smallestWay() {
        dueBest(0, new int[6], new int[6], lab(SLAB, 1, 0));
        dueBest(0, new int[6], new int[] {64, 64, 64, 64, 64, 64}, lab(SLAB, 1, 0, 64));
        dueBest(0, new int[] {2, 2, 2, 2, 2, 2}, new int[] {960, 960, 960, 960, 960, 960},
            run(300, 60, 300, 300, 160, 120));
        dueBest(1, new int[] {1, 0, 0, 1, 1, 1}, new int[] {750, 830, 830, 750, 896, 1024},
            run(150, 300, 300, -1, 80, 300));
        dueBest(2, new int[] {1, 1, 0, 0, 1, 1}, new int[] {690, 690, 860, 860, 1024, 896},
            run(300, 300, 0, 170, 220, -2, 40, 300));
        dueBest(4, new int[] {1, 1, 1, 1, 0, 0}, new int[] {630, 630, 630, 630, 1024, 1024},
            run(200, 170, 0, 250, 210, 240));
    }

    private static void largestWithout() {
        for (int way = FIRST; way <= SLAB; way++) {
            HeapwrightLab full = filled(way);
            due("no other hole", way <= WORST ? 124 : 256, () -> full.largestWithout(3));
            HeapwrightLab only = lab(way, 1, 0, 300);
            due("the only block", 1024, () -> only.largestWithout(0));
            HeapwrightLab all = withDeeds(filled(way), 150);
            due("150 DEEDS", way <= WORST ? 300 : 256, () -> all.largestWithout(0));
        }
        HeapwrightLab between = without(filled(FIRST), 0, 2);
        due("a hole on both sides", 900, () -> between.largestWithout(1));
        due("a hole ahead, up to the end", 424, () -> between.largestWithout(3));
        HeapwrightLab small = fourHoles(BEST);
        due("the largest is elsewhere", 774, () -> small.largestWithout(1));
        due("it is joined with the largest", 854, () -> small.largestWithout(5));
        HeapwrightLab buddy = lab(BUDDY, 1, 0, 256, 8, 300);
        due("BUDDY: both halves", 512, () -> without(lab(BUDDY, 1, 0, 256, 8, 300), 0).largestWithout(1));
        due("BUDDY: the other half is a block", 256, () -> buddy.largestWithout(0));
        due("BUDDY: up to its half", 256, () -> buddy.largestWithout(1));
        HeapwrightLab slab = lab(SLAB, 1, 0, 64, 64, 300, 300, 8);
        due("SLAB: a block is left in the page", 64, () -> slab.largestWithout(0));
        due("SLAB: none is left in the page", 128, () -> slab.largestWithout(4));
        due("SLAB: pages", 384, () -> slab.largestWithout(3));
        slab.giveBack(2);
        due("SLAB: pages in a row", 768, () -> slab.largestWithout(3));
        slab.giveBack(0);
        due("SLAB: the page and those behind it", 512, () -> slab.largestWithout(1));
    }

    private static void largestWithoutWrong() {
        for (int way = FIRST; way <= SLAB; way++) {
            HeapwrightLab x = without(filled(way), 2);
            x.ask(300);
            for (int name : new int[] {-1, 5, 80, LEAST, GREATEST}) {
                due("name " + name, INDEX, () -> x.largestWithout(name));
            }
            due("given back", STATE, () -> x.largestWithout(2));
            HeapwrightLab failed = filled(way);
            failed.ask(1);
            due("not to be had", STATE, () -> failed.largestWithout(4));
            due("no name was given", INDEX, () -> new HeapwrightLab().largestWithout(0));
        }
    }

    private static void digestOfBare() {
        long[] values = {0, 0, 0, 0, 0, 0, 0, 1024, 0, 0, 0, 0, 0, 0, 0, 1, 0, 1024, -1, -1, -1, -1, -1, -1, -1, -1, 0, 0, 0,
            0, 0, 0, 0, 0, 0, 0, 0, 0, 0, 0, 0};
        long d = 2657;
        for (long value : values) {
            d = d * 31 + value;
        }
        due("of a new object", d, new HeapwrightLab()::digest);
    }

    private static final class Sum {
        BigInteger d = BigInteger.valueOf(2657);

        void add(int... values) {
            for (int v : values) {
                d = d.multiply(BigInteger.valueOf(31)).add(BigInteger.valueOf(v));
            }
        }
    }

    /** Without any wrap-around, from the other answers. */
    private static BigInteger digested(HeapwrightLab x) {
        Sum sum = new Sum();
        sum.add(x.way(), x.names(), x.deeds(), x.arenas(), x.blocks(), x.used(), x.wasted(), x.largest(), x.peak(), x.hand());
        for (int what = 0; what <= 4; what++) {
            sum.add(x.counted(what));
        }
        int names = x.names();
        for (int name = 0; name < names; name++) {
            sum.add(x.place(name), x.size(name), x.room(name));
        }
        int holes = x.holes();
        sum.add(holes);
        for (int hole = 0; hole < holes; hole++) {
            sum.add(x.holePlace(hole), x.holeSize(hole));
        }
        for (int page = 0; page < 8; page++) {
            sum.add(x.pageClass(page));
        }
        sum.add(x.wouldBe(1), x.wouldBe(30), x.wouldBe(120));
        for (int way = 0; way < 6; way++) {
            sum.add(x.again(way, 4), x.again(way, 5));
        }
        return sum.d;
    }

    private static void dueDigest(String what, HeapwrightLab x) {
        BigInteger whole = digested(x);
        due(what + ": it does not fit", true, () -> whole.abs().bitLength() > 64);
        due(what, whole.longValue(), x::digest);
    }

    private static void digestWraps() {
        for (int way = FIRST; way <= SLAB; way++) {
            dueDigest("bare", lab(way, 1, 0));
            dueDigest("full", filled(way));
            HeapwrightLab x = lab(way, 2, 3, 50, 60, 70, 300, 200, 300, 9);
            x.open();
            x.giveBack(1);
            x.resize(2, 30);
            x.ask(300);
            dueDigest("some are not there", x);
            dueDigest("80 names", withNames(lab(way, 1, 0), 80));
            if (way <= WORST) {
                HeapwrightLab together = without(lab(way, 1, 0, 50, 60), 0);
                together.together();
                dueDigest("put together", together);
            }
        }
    }

    /** Of the sizes 1, 30 and 120, and of those just below and just above, each has a hole of its own ROOM. */
    private static HeapwrightLab holesOfManySizes(int way) {
        HeapwrightLab x = lab(way, 1, 1, 2, 1, 1, 1, 2, 1, 29, 1, 30, 1, 31, 1, 119, 1, 120, 1, 121, 1, 300);
        x.resize(0, 1);
        return without(x, 2, 4, 6, 8, 10, 12, 14, 16);
    }

    private static void digestWouldBe() {
        HeapwrightLab first = holesOfManySizes(FIRST);
        dueHoles("by their sizes", first, 2, 1, 5, 2, 9, 3, 14, 30, 46, 31, 79, 32, 113, 120, 235, 121, 358, 122, 783, 241);
        due("wouldBe() of 1", 5, () -> first.wouldBe(1));
        due("wouldBe() of 30", 46, () -> first.wouldBe(30));
        due("wouldBe() of 120", 235, () -> first.wouldBe(120));
        for (int way = FIRST; way <= WORST; way++) {
            dueDigest("many holes", holesOfManySizes(way));
        }
    }

    private static void nothingCounted() {
        for (int way = FIRST; way <= SLAB; way++) {
            HeapwrightLab x = lab(way, 2, 3, 50, 60, 70, 300, 300, 300, 9);
            x.giveBack(1);
            x.open();
            long before = x.digest();
            int hand = x.hand();
            int looked = x.counted(0);
            for (int size = 1; size <= 300; size += 13) {
                x.wouldBe(size);
            }
            x.greatest();
            x.bestWay();
            x.largestWithout(0);
            x.largestWithout(2);
            x.again(BUDDY, 0);
            x.again(way, 1);
            x.digest();
            due("HAND", hand, x::hand);
            due("LOOKED", looked, () -> x.counted(0));
            due("deeds", 9, x::deeds);
            due("names", 7, x::names);
            due("all", before, x::digest);
        }
    }
}
