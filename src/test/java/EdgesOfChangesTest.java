/** The sections 5 and 6 of the document: for each sentence that names an edge a test of its own. */
public final class EdgesOfChangesTest extends LabChecks {
    private EdgesOfChangesTest() {
    }

    public static void main(String[] args) {
        sizesChange();
        blocksComeTogether();
        arenasOpenAndClose();
        theTrace();
        Checks.end();
    }

    private static void sizesChange() {
        Checks.sentence("its ROOM is reckoned anew. If that is the same, nothing else happens",
            EdgesOfChangesTest::sameRoom);
        Checks.sentence("if it is less, what is behind it is given back", EdgesOfChangesTest::lessRoom);
        Checks.sentence("(and JOINED with a HOLE behind it)", EdgesOfChangesTest::lessJoins);
        Checks.sentence("if it is more, and there is a HOLE right behind it with enough UNITS, it takes what it needs",
            EdgesOfChangesTest::moreRoom);
        Checks.sentence("from that (a SPLIT, if something is left)", EdgesOfChangesTest::moreSplits);
        Checks.sentence("nothing is LOOKED at, and the HAND stays", EdgesOfChangesTest::nothingLooked);
        Checks.sentence("Otherwise (and with the ways 4 and 5, if ROOM is another one) a BLOCK with the new ROOM is taken",
            EdgesOfChangesTest::otherwise);
        Checks.sentence("as if it was asked for", EdgesOfChangesTest::asIfAskedFor);
        Checks.sentence("the old one being there still", EdgesOfChangesTest::oldOneThere);
        Checks.sentence("if that can be had, the old one is given back", EdgesOfChangesTest::oldOneGivenBack);
        Checks.sentence("as many UNITS as the less of both SIZES are MOVED", EdgesOfChangesTest::lessOfBoth);
        Checks.sentence("if not, it FAILED, and all is as it was", EdgesOfChangesTest::failed);
        Checks.sentence("(what was LOOKED at counts all the same)", EdgesOfChangesTest::failedLooked);
    }

    private static void blocksComeTogether() {
        Checks.sentence("With the ways 0 to 3 BLOCKS can be put TOGETHER", EdgesOfChangesTest::waysTogether);
        Checks.sentence("by their places, each is moved to the least place that is free behind those ahead of it",
            EdgesOfChangesTest::byPlaces);
        Checks.sentence("of each that comes elsewhere its ROOM is MOVED", EdgesOfChangesTest::roomsMoved);
        Checks.sentence("Nothing is JOINED by that", EdgesOfChangesTest::nothingJoined);
        Checks.sentence("The HAND is behind the last one then, with each of these WAYS", EdgesOfChangesTest::handBehind);
        Checks.sentence("(0, if that is the end, or there is none)", EdgesOfChangesTest::handAtEnd);
    }

    private static void arenasOpenAndClose() {
        Checks.sentence("at most 8 are open, one in the other", EdgesOfChangesTest::eightArenas);
        Checks.sentence("What is asked for, belongs to the innermost one that is open", EdgesOfChangesTest::innermost);
        Checks.sentence("(for good, whatever its SIZE is later)", EdgesOfChangesTest::forGood);
        Checks.sentence("As it is closed, all its BLOCKS that are THERE are given back", EdgesOfChangesTest::closed);
        Checks.sentence("what was asked for while none was open belongs to none", EdgesOfChangesTest::ofNone);
    }

    private static void theTrace() {
        Checks.sentence("What changes the MEMORY is a DEED ... also if it could not be had", EdgesOfChangesTest::deeds);
        Checks.sentence("The TRACE has all DEEDS since the beginning, at most 150", EdgesOfChangesTest::mostDeeds);
        Checks.sentence("to do all DEEDS, in order, in a MEMORY that is bare, with that WAY, and STEP and HEAD as they are",
            EdgesOfChangesTest::again);
        Checks.sentence("putting TOGETHER does nothing with the ways 4 and 5", EdgesOfChangesTest::againTogether);
        Checks.sentence("a DEED of a name that is NOT THERE then does nothing", EdgesOfChangesTest::againNotThere);
        Checks.sentence("A method that throws an exception changes nothing", EdgesOfChangesTest::refused);
        Checks.sentence("If several exceptions apply, the one that is named first is thrown", EdgesOfChangesTest::several);
    }

    /** A hole of 50 at 100, right behind name 0 of 100; name 2 of 10 at 150; the rest at 160; the HAND of NEXT is 160. */
    private static HeapwrightLab holeBehind(int way) {
        return without(lab(way, 1, 0, 100, 50, 10), 1);
    }

    private static void sameRoom() {
        for (int way = FIRST; way <= WORST; way++) {
            HeapwrightLab x = lab(way, 4, 2, 20, 20);
            for (int size : new int[] {22, 19, 21, 20}) {
                due("room 24", 0, () -> x.resize(0, size));
                dueBlock("room 24", x, 0, 0, size, 24);
            }
            dueCounts("room 24", x, 2, 2, 0, 0, 0);
            dueHoles("room 24", x, 48, 976);
            due("HAND", way == NEXT ? 48 : 0, x::hand);
            due("each was a deed", 6, x::deeds);
            x.resize(1, 18);
            due("one below them", 20, () -> x.room(1));
            x.resize(1, 19);
            due("the least of them", 24, () -> x.room(1));
            x.resize(1, 23);
            due("one above them", 28, () -> x.room(1));
        }
        dueSameRoom(BUDDY, 33, 64, 64);
        dueSameRoom(BUDDY, 257, 300, 512);
        dueSameRoom(BUDDY, 1, 8, 8);
        dueSameRoom(SLAB, 33, 64, 64);
        dueSameRoom(SLAB, 65, 128, 128);
        dueSameRoom(SLAB, 129, 256, 256);
        dueSameRoom(SLAB, 257, 300, 384);
        for (int way = FIRST; way <= SLAB; way++) {
            HeapwrightLab full = lab(way, 8, 0, 255, 255, 255, 255);
            due("no hole", 0, full::holes);
            due("no hole is needed", 768, () -> full.resize(3, 250));
            due("no hole is needed", 250, () -> full.size(3));
            due("nothing FAILED", 0, () -> full.counted(4));
        }
    }

    private static void dueSameRoom(int way, int least, int most, int room) {
        HeapwrightLab x = lab(way, 1, 0, least);
        int looked = x.counted(0);
        int split = x.counted(1);
        int holes = x.holes();
        due("made larger", 0, () -> x.resize(0, most));
        dueBlock("made larger", x, 0, 0, most, room);
        due("made smaller", 0, () -> x.resize(0, least));
        dueBlock("made smaller", x, 0, 0, least, room);
        dueCounts("nothing else", x, looked, split, 0, 0, 0);
        due("nothing else", holes, x::holes);
        due("wasted", room - least, x::wasted);
    }

    private static void lessRoom() {
        for (int way = FIRST; way <= WORST; way++) {
            HeapwrightLab x = filled(way);
            due("one unit less", 0, () -> x.resize(0, 299));
            dueBlock("one unit less", x, 0, 0, 299, 299);
            dueHoles("a block behind", x, 299, 1);
            due("at the end", 900, () -> x.resize(3, 1));
            dueHoles("at the end", x, 299, 1, 901, 123);
            due("at", -1, () -> x.at(299));
            due("at", 1, () -> x.at(300));
            due("at", 3, () -> x.at(900));
            due("at", -1, () -> x.at(901));
            due("used", 299 + 600 + 1, x::used);
            due("nothing is MOVED", 0, () -> x.counted(3));
            due("nothing is SPLIT", 3, () -> x.counted(1));
        }
    }

    private static void lessJoins() {
        for (int way = FIRST; way <= WORST; way++) {
            HeapwrightLab x = filled(way);
            x.resize(0, 299);
            due("a block behind", 0, () -> x.counted(2));
            x.resize(0, 298);
            due("a hole behind", 1, () -> x.counted(2));
            dueHoles("a hole behind", x, 298, 2);
            x.resize(3, 123);
            due("the end behind", 1, () -> x.counted(2));
            x.resize(3, 122);
            due("the hole up to the end behind", 2, () -> x.counted(2));
            x.giveBack(1);
            due("a hole ahead", 3, () -> x.counted(2));
            x.resize(2, 299);
            due("a hole ahead of it is not joined", 3, () -> x.counted(2));
            dueHoles("a hole ahead", x, 298, 302, 899, 1, 1022, 2);
        }
    }

    private static void moreRoom() {
        for (int way = FIRST; way <= WORST; way++) {
            HeapwrightLab less = holeBehind(way);
            due("one unit more", 0, () -> less.resize(0, 101));
            dueHoles("one unit more", less, 101, 49, 160, 864);
            due("all but one", 0, () -> less.resize(0, 149));
            dueHoles("all but one", less, 149, 1, 160, 864);
            due("the last one", 0, () -> less.resize(0, 150));
            dueHoles("the last one", less, 160, 864);
            due("at", 0, () -> less.at(149));
            due("no hole right behind", 160, () -> less.resize(0, 151));
            HeapwrightLab enough = holeBehind(way);
            due("just enough", 0, () -> enough.resize(0, 150));
            dueBlock("just enough", enough, 0, 0, 150, 150);
            HeapwrightLab few = holeBehind(way);
            due("one too few", 160, () -> few.resize(0, 151));
            dueBlock("one too few", few, 0, 160, 151, 151);
            HeapwrightLab end = lab(way, 1, 0, 300, 300, 300, 100);
            due("up to the end", 900, () -> end.resize(3, 124));
            dueHoles("up to the end", end);
            due("not beyond", 900, () -> end.resize(3, 125));
            dueBlock("not beyond", end, 3, 900, 124, 124);
            HeapwrightLab round = without(filled(way), 0);
            due("the first hole is not behind the end", 0, () -> round.resize(3, 125));
            due("MOVED there", 124, () -> round.counted(3));
            HeapwrightLab further = lab(way, 1, 0, 100, 10);
            due("a block is between", 110, () -> further.resize(0, 101));
        }
    }

    private static void moreSplits() {
        for (int way = FIRST; way <= WORST; way++) {
            HeapwrightLab x = holeBehind(way);
            x.resize(0, 149);
            due("one is left", 4, () -> x.counted(1));
            x.resize(0, 150);
            due("nothing is left", 4, () -> x.counted(1));
            HeapwrightLab y = holeBehind(way);
            y.resize(0, 150);
            due("nothing is left at once", 3, () -> y.counted(1));
            due("nothing is JOINED", 0, () -> y.counted(2));
            due("nothing is MOVED", 0, () -> y.counted(3));
        }
    }

    private static void nothingLooked() {
        for (int way = FIRST; way <= WORST; way++) {
            HeapwrightLab x = holeBehind(way);
            int hand = way == NEXT ? 160 : 0;
            x.resize(0, 120);
            due("more", 3, () -> x.counted(0));
            due("more: HAND", hand, x::hand);
            x.resize(0, 90);
            due("less", 3, () -> x.counted(0));
            due("less: HAND", hand, x::hand);
            x.resize(2, 300);
            due("the last block: HAND", hand, x::hand);
            x.resize(2, 5);
            due("the last block: HAND", hand, x::hand);
            due("the last block", 3, () -> x.counted(0));
        }
    }

    private static void otherwise() {
        HeapwrightLab buddy = lab(BUDDY, 1, 0, 64);
        due("BUDDY: less", 64, () -> buddy.resize(0, 32));
        dueBlock("BUDDY: less", buddy, 0, 64, 32, 32);
        dueCounts("BUDDY: 64 of 64 halved, then the old one is back", buddy, 1 + 4, 4 + 1, 0, 32, 0);
        due("BUDDY: more, though the other half is free", 0, () -> buddy.resize(0, 33));
        dueCounts("BUDDY: more, the old one joins its half", buddy, 5 + 5, 5, 1, 64, 0);
        dueHoles("BUDDY: more", buddy, 64, 64, 128, 128, 256, 256, 512, 512);
        HeapwrightLab slab = lab(SLAB, 1, 0, 64);
        due("SLAB: less", 128, () -> slab.resize(0, 32));
        dueCounts("SLAB: less", slab, 0, 2, 1, 32, 0);
        due("SLAB: more", 0, () -> slab.resize(0, 65));
        dueCounts("SLAB: more", slab, 0, 2, 2, 64, 0);
        due("SLAB: larger, though free pages are behind", 128, () -> slab.resize(0, 129));
        due("SLAB: larger still", 384, () -> slab.resize(0, 257));
        due("SLAB: less", 0, () -> slab.resize(0, 256));
        dueCounts("SLAB: the classes 128 and above", slab, 0, 2, 2, 64 + 65 + 129 + 256, 0);
        dueHoles("SLAB", slab, 256, 768);
    }

    private static void asIfAskedFor() {
        int[] places = {0, 250, 110, 250};
        int[] looked = {1, 1, 4, 4};
        for (int way = FIRST; way <= WORST; way++) {
            HeapwrightLab x = without(lab(way, 1, 0, 100, 10, 50, 10, 70, 1, 9), 0, 2, 4);
            dueHoles("a block is behind name 5", x, 0, 100, 110, 50, 170, 70, 250, 774);
            due("taken, in way " + way, places[way], () -> x.resize(5, 45));
            due("looked at, in way " + way, 7 + looked[way], () -> x.counted(0));
            due("SPLIT, in way " + way, 7 + 1, () -> x.counted(1));
            due("HAND", way == NEXT ? 295 : 0, x::hand);
        }
        HeapwrightLab end = lab(NEXT, 1, 0, 24, 300, 300, 300);
        due("just what is left", 924, () -> end.resize(0, 100));
        due("HAND at the end", 0, end::hand);
        due("no SPLIT", 4, () -> end.counted(1));
        HeapwrightLab round = without(lab(NEXT, 1, 0, 50, 10, 50, 10, 300, 300, 200, 104), 0, 2);
        due("from the HAND", 0, () -> round.resize(3, 40));
        due("HAND behind it", 40, round::hand);
        HeapwrightLab slot = lab(SLAB, 1, 0, 32, 64, 64);
        due("a free slot of the other class", 32, () -> slot.resize(1, 20));
        dueCounts("a page with a free slot", slot, 1 + 1, 2, 0, 20, 0);
    }

    private static void oldOneThere() {
        for (int way = FIRST; way <= WORST; way++) {
            HeapwrightLab x = without(lab(way, 1, 0, 100, 200, 300, 300, 124), 0);
            due("its own place and the hole ahead would be enough", 100, () -> x.resize(1, 250));
            due("FAILED", 1, () -> x.counted(4));
            HeapwrightLab y = without(lab(way, 1, 0, 100, 100, 100, 300, 300, 124), 0, 2);
            due("its own place and the holes on both sides", 100, () -> y.resize(1, 201));
            due("FAILED", 1, () -> y.counted(4));
            due("the hole behind alone", 100, () -> y.resize(1, 200));
        }
        HeapwrightLab buddy = lab(BUDDY, 1, 0, 256, 256, 256, 256);
        due("BUDDY: less is nowhere else", 256, () -> buddy.resize(1, 8));
        due("BUDDY: FAILED", 1, () -> buddy.counted(4));
        HeapwrightLab half = lab(BUDDY, 1, 0, 256, 300);
        due("BUDDY: with the other half it would be enough", 0, () -> half.resize(0, 257));
        due("BUDDY: FAILED", 1, () -> half.counted(4));
        HeapwrightLab slab = filled(SLAB);
        due("SLAB: less is nowhere else", 768, () -> slab.resize(3, 8));
        due("SLAB: FAILED", 1, () -> slab.counted(4));
        HeapwrightLab page = lab(SLAB, 1, 0, 64, 300, 300);
        due("SLAB: the last free page", 896, () -> page.resize(0, 128));
        due("SLAB: the page that it left", 0, () -> page.resize(0, 8));
    }

    private static void oldOneGivenBack() {
        for (int way = FIRST; way <= WORST; way++) {
            HeapwrightLab x = without(lab(way, 1, 0, 300, 300, 300, 24, 100), 0);
            due("wholly into the hole", 0, () -> x.resize(4, 300));
            dueHoles("at the end", x, 924, 100);
            due("nothing to join", 0, () -> x.counted(2));
            due("at its old place", -1, () -> x.at(924));
            due("at its place", 4, () -> x.at(299));
            due("used", 300 * 3 + 24, x::used);
            due("blocks", 4, x::blocks);
            due("names", 5, x::names);
            HeapwrightLab beside = without(lab(way, 1, 0, 300, 10, 300, 300, 114), 0);
            due("the hole ahead", 0, () -> beside.resize(1, 200));
            dueHoles("it joins what is left", beside, 200, 110);
            dueCounts("it joins what is left", beside, 5 + 1, 4 + 1, 1, 10, 0);
            due("peak", 1024, beside::peak);
        }
        HeapwrightLab peak = lab(FIRST, 1, 0, 100, 100);
        peak.resize(0, 150);
        due("they are never both counted", 250, peak::peak);
    }

    private static void lessOfBoth() {
        HeapwrightLab fit = lab(FIRST, 8, 8, 10, 10);
        fit.resize(0, 100);
        due("the SIZE before, not the ROOM", 10, () -> fit.counted(3));
        HeapwrightLab buddy = lab(BUDDY, 1, 8, 100, 10);
        buddy.resize(0, 20);
        due("the SIZE then", 20, () -> buddy.counted(3));
        buddy.resize(0, 50);
        due("the SIZE before", 20 + 20, () -> buddy.counted(3));
        HeapwrightLab slab = lab(SLAB, 1, 0, 9);
        slab.resize(0, 8);
        due("one less", 8, () -> slab.counted(3));
        slab.resize(0, 300);
        due("many more", 8 + 8, () -> slab.counted(3));
        slab.resize(0, 1);
        due("the least", 16 + 1, () -> slab.counted(3));
        due("a larger one with the same ROOM", 0, () -> {
            HeapwrightLab same = lab(SLAB, 1, 0, 9);
            same.resize(0, 16);
            return same.counted(3);
        });
    }

    private static void failed() {
        for (int way = FIRST; way <= WORST; way++) {
            HeapwrightLab x = lab(way, 1, 0, 300, 299, 300, 100);
            int hand = way == NEXT ? 999 : 0;
            due("the same ROOM", 0, () -> x.resize(0, 300));
            due("the old place", 300, () -> x.resize(1, 300));
            dueBlock("one unit too few", x, 1, 300, 299, 299);
            dueCounts("one unit too few", x, 4 + 1, 4, 0, 0, 1);
            dueHoles("one unit too few", x, 999, 25);
            due("HAND", hand, x::hand);
            due("used", 999, x::used);
            due("wasted", 0, x::wasted);
            due("peak", 999, x::peak);
            due("deeds", 6, x::deeds);
            due("names", 4, x::names);
        }
        HeapwrightLab buddy = lab(BUDDY, 1, 0, 300, 128, 128);
        due("BUDDY: place", 512, () -> buddy.resize(1, 129 + 128));
        dueBlock("BUDDY", buddy, 1, 512, 128, 128);
        dueHoles("BUDDY", buddy, 768, 256);
        dueCounts("BUDDY", buddy, 1 + 1 + 2 + 1, 1 + 2, 0, 0, 1);
        HeapwrightLab slab = lab(SLAB, 1, 0, 300, 300, 64);
        due("SLAB: place", 0, () -> slab.resize(0, 256));
        due("SLAB: place", 768, () -> slab.resize(2, 129));
        dueBlock("SLAB", slab, 0, 0, 300, 384);
        dueBlock("SLAB", slab, 2, 768, 64, 64);
        dueCounts("SLAB", slab, 0, 1, 0, 0, 2);
        dueHoles("SLAB", slab, 832, 64, 896, 128);
        due("SLAB: its page", 64, () -> slab.pageClass(6));
    }

    private static void failedLooked() {
        for (int way = FIRST; way <= WORST; way++) {
            HeapwrightLab x = without(lab(way, 1, 0, 300, 10, 20, 10, 30, 300, 300, 54), 2, 4);
            dueHoles("too small", x, 310, 20, 340, 30);
            x.resize(7, 55);
            due("both holes", 8 + 2, () -> x.counted(0));
            due("FAILED", 1, () -> x.counted(4));
            HeapwrightLab full = filled(way);
            full.resize(3, 125);
            due("no hole", 4, () -> full.counted(0));
            due("FAILED", 1, () -> full.counted(4));
        }
        HeapwrightLab buddy = lab(BUDDY, 1, 0, 8);
        buddy.ask(300);
        due("BUDDY: two asked for", 1 + 7, () -> buddy.counted(0));
        buddy.resize(0, 300);
        due("BUDDY: six holes", 8 + 6, () -> buddy.counted(0));
        due("BUDDY: FAILED", 1, () -> buddy.counted(4));
        HeapwrightLab slab = lab(SLAB, 1, 0, 300, 300, 64, 64, 128);
        slab.resize(0, 64);
        due("SLAB: one full page of the class", 1 + 1, () -> slab.counted(0));
        slab.resize(0, 10);
        due("SLAB: none of the class", 2, () -> slab.counted(0));
        due("SLAB: FAILED", 2, () -> slab.counted(4));
    }

    private static void waysTogether() {
        for (int way = FIRST; way <= WORST; way++) {
            HeapwrightLab x = without(lab(way, 1, 0, 5, 6), 0);
            due("way " + way, 6, x::together);
        }
        for (int way = BUDDY; way <= SLAB; way++) {
            HeapwrightLab x = without(lab(way, 1, 0, 5, 6), 0);
            dueRefused("way " + way, STATE, x, x::together);
            HeapwrightLab bare = lab(way, 1, 0);
            dueRefused("bare, way " + way, STATE, bare, bare::together);
        }
    }

    private static void byPlaces() {
        HeapwrightLab x = without(lab(FIRST, 1, 0, 100, 50, 30), 0);
        x.ask(20);
        due("MOVED", 80, x::together);
        dueBlock("the first by its place", x, 3, 0, 20, 20);
        dueBlock("the second", x, 1, 20, 50, 50);
        dueBlock("the third", x, 2, 70, 30, 30);
        int[][] unitName = {{0, 3}, {19, 3}, {20, 1}, {69, 1}, {70, 2}, {99, 2}, {100, -1}, {1023, -1}};
        for (int[] each : unitName) {
            due("at " + each[0], each[1], () -> x.at(each[0]));
        }
        dueHoles("one hole", x, 100, 924);
        for (int way = FIRST; way <= WORST; way++) {
            HeapwrightLab one = without(lab(way, 1, 0, 1, 300, 300, 300, 123), 0);
            dueHoles("one unit at the place 0", one, 0, 1);
            due("by one unit", 1023, one::together);
            dueHoles("one unit at the end", one, 1023, 1);
            due("again", 0, one::together);
            due("full", 0, filled(way)::together);
            due("bare", 0, lab(way, 1, 0)::together);
            HeapwrightLab last = without(filled(way), 0, 1, 2);
            due("the only one, at the end", 124, last::together);
            dueBlock("the only one", last, 3, 0, 124, 124);
        }
    }

    private static void roomsMoved() {
        HeapwrightLab x = without(lab(FIRST, 8, 8, 1, 1, 1, 1), 1);
        due("two of three, by ROOM", 32, x::together);
        due("MOVED", 32, () -> x.counted(3));
        dueBlock("it stays", x, 0, 0, 1, 16);
        dueBlock("it comes elsewhere", x, 2, 16, 1, 16);
        due("none", 0, x::together);
        due("MOVED", 32, () -> x.counted(3));
        x.giveBack(0);
        due("two", 32, x::together);
        due("MOVED in all", 64, () -> x.counted(3));
    }

    private static void nothingJoined() {
        for (int way = FIRST; way <= WORST; way++) {
            HeapwrightLab x = fourHoles(way);
            x.together();
            dueHoles("four are one", x, 30, 994);
            dueCounts("nothing but MOVED", x, 6, 6, 0, 30, 0);
        }
    }

    private static void handBehind() {
        for (int way = FIRST; way <= WORST; way++) {
            HeapwrightLab x = fourHoles(way);
            x.together();
            due("way " + way, 30, x::hand);
            HeapwrightLab y = lab(way, 1, 0, 300, 300, 300, 123);
            y.together();
            due("nothing MOVED, one unit is left", 1023, y::hand);
            HeapwrightLab z = lab(way, 8, 8, 1);
            z.together();
            due("behind the ROOM", 16, z::hand);
            z.ask(1);
            due("after asking", way == NEXT ? 32 : 16, z::hand);
            z.reset(way, 1, 0);
            due("after reset", 0, z::hand);
        }
    }

    private static void handAtEnd() {
        for (int way = FIRST; way <= WORST; way++) {
            HeapwrightLab full = filled(way);
            full.together();
            due("the end", 0, full::hand);
            HeapwrightLab x = lab(way, 1, 0, 50);
            x.together();
            due("not the end", 50, x::hand);
            x.giveBack(0);
            due("not yet", 50, x::hand);
            x.together();
            due("there is none", 0, x::hand);
            HeapwrightLab again = lab(way, 1, 0, 300, 300, 300, 123);
            again.together();
            again.ask(1);
            again.together();
            due("the end, after another place", 0, again::hand);
        }
    }

    private static void eightArenas() {
        for (int way = FIRST; way <= SLAB; way++) {
            HeapwrightLab x = lab(way, 1, 0);
            for (int many = 1; many <= 8; many++) {
                due("open", many, x::open);
                x.ask(5);
            }
            dueRefused("a ninth", STATE, x, x::open);
            for (int many = 7; many >= 0; many--) {
                int left = many;
                due("one block of each", 1, x::close);
                due("arenas", left, x::arenas);
                due("the others are there", left, x::blocks);
            }
            dueRefused("none is open", STATE, x, x::close);
            due("open once more", 1, x::open);
        }
        HeapwrightLab fresh = new HeapwrightLab();
        dueRefused("none is open at first", STATE, fresh, fresh::close);
    }

    private static void innermost() {
        for (int way = FIRST; way <= SLAB; way++) {
            HeapwrightLab x = lab(way, 1, 0);
            x.open();
            x.ask(5);
            x.open();
            x.ask(5);
            x.ask(5);
            due("the inner one", 2, x::close);
            due("of the outer one", true, () -> x.isThere(0));
            x.ask(5);
            x.open();
            due("another inner one, without any", 0, x::close);
            due("the outer one, ahead of and behind the inner one", 2, x::close);
            due("none is there", 0, x::blocks);
        }
    }

    private static void forGood() {
        for (int way = FIRST; way <= SLAB; way++) {
            HeapwrightLab x = lab(way, 1, 0, 10, 10);
            x.open();
            x.ask(10);
            x.ask(10);
            x.open();
            x.resize(2, 200);
            x.resize(0, 100);
            due("the inner one has none of them", 0, x::close);
            due("there", true, () -> x.isThere(2));
            due("the outer one has its own", 2, x::close);
            due("there", true, () -> x.isThere(0));
            due("not there", false, () -> x.isThere(2));
            due("its SIZE", 100, () -> x.size(0));
            due("blocks", 2, x::blocks);
        }
    }

    private static void closed() {
        for (int way = FIRST; way <= WORST; way++) {
            HeapwrightLab x = lab(way, 1, 0);
            x.open();
            for (int name = 0; name < 4; name++) {
                x.ask(300);
            }
            x.giveBack(1);
            due("one was given back, one was not to be had", 2, x::close);
            due("each is JOINED", 3, () -> x.counted(2));
            dueHoles("all", x, 0, 1024);
            due("names", 4, x::names);
            x.open();
            due("without any", 0, x::close);
            HeapwrightLab gone = lab(way, 1, 0);
            gone.open();
            gone.ask(5);
            gone.giveBack(0);
            due("none is there any more", 0, gone::close);
        }
        HeapwrightLab buddy = lab(BUDDY, 1, 0);
        buddy.open();
        buddy.ask(8);
        buddy.ask(8);
        due("BUDDY", 2, buddy::close);
        due("BUDDY: JOINED", 7, () -> buddy.counted(2));
        HeapwrightLab slab = lab(SLAB, 1, 0);
        slab.open();
        slab.ask(64);
        slab.ask(64);
        slab.ask(64);
        due("SLAB", 3, slab::close);
        due("SLAB: JOINED", 2, () -> slab.counted(2));
    }

    private static void ofNone() {
        for (int way = FIRST; way <= SLAB; way++) {
            HeapwrightLab x = lab(way, 1, 0, 5);
            x.open();
            x.ask(5);
            due("one", 1, x::close);
            x.ask(5);
            x.open();
            due("none", 0, x::close);
            due("ahead of all arenas", true, () -> x.isThere(0));
            due("between two arenas", true, () -> x.isThere(2));
            x.open();
            x.open();
            x.ask(5);
            due("the inner one", 1, x::close);
            due("the outer one", 0, x::close);
            due("blocks", 2, x::blocks);
        }
    }

    private static void deeds() {
        HeapwrightLab x = filled(FIRST);
        due("four had", 4, x::deeds);
        x.ask(1);
        due("not to be had", 5, x::deeds);
        x.resize(0, 299);
        x.resize(3, 200);
        due("FAILED", 1 + 1, () -> x.counted(4));
        due("FAILED is one", 7, x::deeds);
        x.resize(1, 300);
        due("the same SIZE", 8, x::deeds);
        x.resize(0, 300);
        x.together();
        due("nothing MOVED", 10, x::deeds);
        x.open();
        x.close();
        due("nothing given back", 12, x::deeds);
        x.giveBack(0);
        due("given back", 13, x::deeds);
        x.digest();
        x.again(5, 5);
        x.wouldBe(5);
        x.largestWithout(1);
        due("a question is none", 13, x::deeds);
        x.reset(FIRST, 1, 0);
        due("nor is reset", 0, x::deeds);
    }

    private static void dueTraceIsFull(HeapwrightLab x) {
        due("deeds", 150, x::deeds);
        dueRefused("ask", STATE, x, () -> x.ask(1));
        dueRefused("giveBack", STATE, x, () -> x.giveBack(0));
        dueRefused("resize", STATE, x, () -> x.resize(0, 6));
        dueRefused("resize to the same SIZE", STATE, x, () -> x.resize(0, 5));
        dueRefused("together", STATE, x, x::together);
        dueRefused("open", STATE, x, x::open);
        dueRefused("close", STATE, x, x::close);
    }

    private static void mostDeeds() {
        for (int way = FIRST; way <= SLAB; way++) {
            HeapwrightLab ask = withDeeds(lab(way, 1, 0, 5, 5), 149);
            due("one is open", 1, ask::arenas);
            due("ask", 2, () -> ask.ask(1));
            dueTraceIsFull(ask);
            HeapwrightLab giveBack = withDeeds(lab(way, 1, 0, 5, 8), 149);
            due("giveBack", 8, () -> giveBack.giveBack(1));
            dueTraceIsFull(giveBack);
            HeapwrightLab resize = withDeeds(lab(way, 1, 0, 5, 5), 149);
            due("resize", resize.place(1), () -> resize.resize(1, 4));
            due("resize", 4, () -> resize.size(1));
            dueTraceIsFull(resize);
            HeapwrightLab open = withDeeds(lab(way, 1, 0, 5, 5), 149);
            due("open", 2, open::open);
            dueTraceIsFull(open);
            HeapwrightLab close = withDeeds(lab(way, 1, 0, 5, 5), 149);
            due("close", 0, close::close);
            dueTraceIsFull(close);
            if (way <= WORST) {
                HeapwrightLab together = without(lab(way, 1, 0, 5, 5, 5), 1);
                withDeeds(together, 149);
                due("together", 5, together::together);
                dueTraceIsFull(together);
                together.reset(way, 1, 0);
                due("anew", 1, together::open);
                due("anew", 1, together::deeds);
            }
        }
    }

    private static void again() {
        HeapwrightLab x = lab(BUDDY, 8, 3, 14);
        int[] peaks = {24, 24, 24, 24, 32, 32};
        for (int way = FIRST; way <= SLAB; way++) {
            int other = way;
            due("STEP and HEAD, way " + way, peaks[other], () -> x.again(other, 5));
            due("largest, way " + way, way <= WORST ? 1000 : way == BUDDY ? 512 : 896, () -> x.again(other, 7));
        }
        HeapwrightLab full = filled(FIRST);
        for (int way = FIRST; way <= WORST; way++) {
            int other = way;
            due("a bare memory", 0, () -> full.again(other, 4));
            due("the whole of it", 1024, () -> full.again(other, 5));
        }
        due("three of 512", 2, () -> full.again(BUDDY, 4));
        due("three of 384", 1, () -> full.again(SLAB, 4));
        HeapwrightLab next = without(lab(NEXT, 1, 0, 100, 50), 0);
        next.ask(10);
        due("the HAND of a bare memory", 874 - 10, () -> next.again(NEXT, 7));
        due("without a HAND", 874, () -> next.again(FIRST, 7));
        HeapwrightLab order = lab(FIRST, 1, 0, 300, 300, 300);
        order.giveBack(1);
        order.ask(300);
        order.ask(124);
        due("in order", 0, () -> order.again(WORST, 4));
        due("in order", 1024, () -> order.again(WORST, 5));
        for (int way = FIRST; way <= SLAB; way++) {
            HeapwrightLab own = without(lab(way, 2, 1, 40, 50, 60, 300, 200), 1);
            own.resize(0, 90);
            for (int number = 0; number < 5; number++) {
                int what = number;
                due("in its own way", own.counted(what), () -> own.again(own.way(), what));
            }
            due("in its own way", own.peak(), () -> own.again(own.way(), 5));
            due("in its own way", own.holes(), () -> own.again(own.way(), 6));
            due("in its own way", own.largest(), () -> own.again(own.way(), 7));
            HeapwrightLab bare = lab(way, 1, 0);
            due("no DEED", 1024, () -> bare.again(NEXT, 7));
            due("no DEED", 0, () -> bare.again(SLAB, 0));
        }
    }

    private static void againTogether() {
        HeapwrightLab x = without(lab(FIRST, 1, 0, 64, 64, 129), 0);
        due("in its own way", 193, x::together);
        for (int way = FIRST; way <= WORST; way++) {
            int other = way;
            due("way " + way, 193, () -> x.again(other, 3));
            due("way " + way, 1, () -> x.again(other, 6));
        }
        due("BUDDY: MOVED", 0, () -> x.again(BUDDY, 3));
        due("BUDDY: holes", 3, () -> x.again(BUDDY, 6));
        due("BUDDY: FAILED", 0, () -> x.again(BUDDY, 4));
        due("SLAB: MOVED", 0, () -> x.again(SLAB, 3));
        due("SLAB: holes", 2, () -> x.again(SLAB, 6));
        due("SLAB: FAILED", 0, () -> x.again(SLAB, 4));
        x.ask(5);
        due("BUDDY: the DEED behind it is done, 64 is in halves", 3 + 2, () -> x.again(BUDDY, 6));
    }

    private static void againNotThere() {
        HeapwrightLab given = lab(FIRST, 1, 0, 300, 257, 300);
        due("given back", 300, () -> given.giveBack(2));
        due("BUDDY: LOOKED", 1 + 1, () -> given.again(BUDDY, 0));
        due("BUDDY: nothing is JOINED", 0, () -> given.again(BUDDY, 2));
        due("BUDDY: FAILED once", 1, () -> given.again(BUDDY, 4));
        due("BUDDY: largest", 0, () -> given.again(BUDDY, 7));
        due("SLAB: nothing is JOINED", 0, () -> given.again(SLAB, 2));
        due("SLAB: largest", 256, () -> given.again(SLAB, 7));
        HeapwrightLab resized = lab(FIRST, 1, 0, 300, 257, 300);
        due("made smaller", 557, () -> resized.resize(2, 10));
        due("BUDDY: LOOKED", 1 + 1, () -> resized.again(BUDDY, 0));
        due("BUDDY: FAILED once", 1, () -> resized.again(BUDDY, 4));
        due("BUDDY: largest", 0, () -> resized.again(BUDDY, 7));
        due("SLAB: LOOKED", 0, () -> resized.again(SLAB, 0));
        due("SLAB: FAILED once", 1, () -> resized.again(SLAB, 4));
        due("SLAB: peak", 768, () -> resized.again(SLAB, 5));
        HeapwrightLab buddy = lab(BUDDY, 8, 8, 248, 248, 248, 240, 1);
        buddy.giveBack(0);
        due("what is there in no way is not there", false, () -> buddy.isThere(4));
        due("in way 0 it fitted", 256 * 3 + 248 + 0, () -> buddy.again(FIRST, 5));
        HeapwrightLab arena = lab(FIRST, 1, 0);
        arena.open();
        arena.ask(300);
        arena.ask(257);
        arena.ask(300);
        arena.giveBack(2);
        arena.ask(8);
        arena.close();
        for (int way = FIRST; way <= SLAB; way++) {
            int other = way;
            due("all is given back in way " + way, 1024, () -> arena.again(other, 7));
            due("all is given back in way " + way, 1, () -> arena.again(other, 6));
        }
    }

    private static void refused() {
        for (int way = FIRST; way <= SLAB; way++) {
            HeapwrightLab x = without(lab(way, 2, 1, 40, 50, 300, 60, 300), 1);
            dueRefused("reset", ARGUMENT, x, () -> x.reset(6, 1, 0));
            dueRefused("reset", ARGUMENT, x, () -> x.reset(0, 3, 0));
            dueRefused("reset", ARGUMENT, x, () -> x.reset(0, 1, 9));
            dueRefused("ask", ARGUMENT, x, () -> x.ask(301));
            dueRefused("giveBack", INDEX, x, () -> x.giveBack(5));
            dueRefused("giveBack", STATE, x, () -> x.giveBack(1));
            dueRefused("resize", INDEX, x, () -> x.resize(5, 10));
            dueRefused("resize", ARGUMENT, x, () -> x.resize(0, 0));
            dueRefused("resize", STATE, x, () -> x.resize(1, 10));
            dueRefused("close", STATE, x, x::close);
            HeapwrightLab y = without(lab(way, 2, 1, 40, 50, 300, 60, 200), 1);
            dueRefused("isThere", INDEX, y, () -> y.isThere(5));
            dueRefused("place", INDEX, y, () -> y.place(-1));
            dueRefused("size", INDEX, y, () -> y.size(5));
            dueRefused("room", INDEX, y, () -> y.room(-1));
            dueRefused("at", INDEX, y, () -> y.at(1024));
            dueRefused("holePlace", INDEX, y, () -> y.holePlace(-1));
            dueRefused("holeSize", INDEX, y, () -> y.holeSize(200));
            dueRefused("pageClass", INDEX, y, () -> y.pageClass(8));
            dueRefused("counted", ARGUMENT, y, () -> y.counted(5));
            dueRefused("wouldBe", ARGUMENT, y, () -> y.wouldBe(0));
            dueRefused("again", ARGUMENT, y, () -> y.again(0, 8));
            dueRefused("largestWithout", INDEX, y, () -> y.largestWithout(5));
            dueRefused("largestWithout", STATE, y, () -> y.largestWithout(1));
            y.ask(5);
            due("STEP and HEAD are as they were", way < BUDDY ? 6 : 8, () -> y.room(5));
        }
    }

    private static void several() {
        for (int way = FIRST; way <= SLAB; way++) {
            HeapwrightLab x = withNames(lab(way, 1, 0, 5, 5), 80);
            x.giveBack(1);
            dueRefused("80 names, a wrong SIZE", ARGUMENT, x, () -> x.ask(0));
            dueRefused("80 names", STATE, x, () -> x.ask(1));
            withDeeds(x, 150);
            for (int size : new int[] {0, 301, LEAST, GREATEST}) {
                due("a full trace, a wrong SIZE", ARGUMENT, () -> x.ask(size));
                due("a full trace, a wrong SIZE", ARGUMENT, () -> x.resize(0, size));
                due("a full trace, a wrong SIZE, not there", ARGUMENT, () -> x.resize(1, size));
                due("a full trace, a wrong SIZE, no name", INDEX, () -> x.resize(80, size));
            }
            for (int name : new int[] {-1, 80, LEAST, GREATEST}) {
                due("a full trace, no name", INDEX, () -> x.giveBack(name));
                due("a full trace, no name", INDEX, () -> x.resize(name, 5));
                due("no name", INDEX, () -> x.largestWithout(name));
            }
            due("a full trace, not there", STATE, () -> x.giveBack(1));
            due("a full trace, not there", STATE, () -> x.resize(1, 5));
            due("nothing was done", 150, x::deeds);
            due("a full trace is nothing to a question", STATE, () -> x.largestWithout(1));
        }
    }
}
