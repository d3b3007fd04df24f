import java.util.ArrayList;
import java.util.List;

/**
 * Runs of calls, drawn from fixed seeds, on the class and on the plain model; every answer and every
 * exception must be the same. Runs differ in what they like to do, so that full memories, many
 * failures, full traces and deep arenas all come up.
 */
public final class ModelTest {
    private static final int RUNS = 200;
    private static final int CALLS = 512;
    private static final int[] ODD = {Integer.MIN_VALUE, -1, 0, 1, 300, 301, 1023, 1024, Integer.MAX_VALUE};

    private long state;
    private HeapwrightLab lab;
    private int used;
    private PlainLab plain;
    /** What made the present state, from the last reset on. */
    private final List<Made> made = new ArrayList<>();

    private record Made(String call, int a, int b, int c) {
    }

    public static void main(String[] args) {
        int runs = args.length > 0 ? Integer.parseInt(args[0]) : RUNS;
        for (int run = 0; run < runs && Checks.wrongSoFar() == 0; run++) {
            new ModelTest().play(run);
        }
        Checks.end();
    }

    private void play(int run) {
        state = 77777L * run + 12345;
        lab = new HeapwrightLab();
        plain = new PlainLab();
        int character = run % 7;
        int asked = run % 50;
        boolean fresh = run % 25 == 0;
        if (!fresh) {
            both(run, "reset", drawn(6), 1 << drawn(4), drawn(9));
        }
        for (int call = 0; call < CALLS && Checks.wrongSoFar() == 0; call++) {
            int kind = drawn(100);
            if (kind < 60) {
                deed(run, character, asked);
            } else if (kind < 98) {
                question(run);
            } else if (character == 3) {
                both(run, "reset", odd(6), drawn(10), odd(9));
            } else {
                both(run, "digest", 0, 0, 0);
            }
        }
        everything(run);
    }

    private void deed(int run, int character, int asked) {
        int names = Math.max(plain.names(), 1);
        int kind = drawn(100);
        int size = character == 0 ? 1 + drawn(300) : character == 1 ? 1 + drawn(12) : 1 + drawn(20 + 2 * asked);
        if (kind < 40) {
            both(run, "ask", drawn(40) == 0 ? odd(301) : size, 0, 0);
        } else if (kind < (character == 2 ? 80 : 65)) {
            both(run, "giveBack", drawn(30) == 0 ? odd(81) : drawn(names), 0, 0);
        } else if (kind < 88) {
            both(run, "resize", drawn(30) == 0 ? odd(81) : drawn(names), drawn(30) == 0 ? odd(301) : size, 0);
        } else if (kind < 92) {
            both(run, "together", 0, 0, 0);
        } else if (kind < 97 || character == 4) {
            both(run, "open", 0, 0, 0);
        } else {
            both(run, "close", 0, 0, 0);
        }
    }

    private void question(int run) {
        String[] ofOne = {"isThere", "place", "size", "room", "largestWithout", "at", "holePlace", "holeSize",
            "pageClass", "counted", "wouldBe"};
        String[] ofNone = {"way", "names", "deeds", "arenas", "blocks", "holes", "hand", "used", "wasted", "largest",
            "broken", "peak", "bestWay"};
        int kind = drawn(26);
        if (kind < 15) {
            int[] bounds = {80, 80, 80, 80, 80, 1024, 30, 30, 8, 5, 301};
            int which = drawn(ofOne.length);
            both(run, ofOne[which], odd(bounds[which]), 0, 0);
        } else if (kind < 23) {
            both(run, ofNone[drawn(ofNone.length)], 0, 0, 0);
        } else if (kind == 23) {
            both(run, "greatest", 0, 0, 0);
        } else {
            both(run, "again", odd(6), odd(8), 0);
        }
    }

    /** Every answer that can be had now, each by itself, so that no two errors hide each other. */
    private void everything(int run) {
        String[] ofNone = {"way", "names", "deeds", "arenas", "blocks", "holes", "hand", "used", "wasted", "largest",
            "broken", "peak", "bestWay", "greatest", "digest"};
        for (String call : ofNone) {
            both(run, call, 0, 0, 0);
        }
        for (int name = -1; name <= plain.names(); name++) {
            for (String call : new String[] {"isThere", "place", "size", "room", "largestWithout"}) {
                both(run, call, name, 0, 0);
            }
        }
        for (int hole = -1; hole <= plain.holes(); hole++) {
            both(run, "holePlace", hole, 0, 0);
            both(run, "holeSize", hole, 0, 0);
        }
        for (int unit = -1; unit <= 1024; unit += 5) {
            both(run, "at", unit, 0, 0);
        }
        for (int number = -1; number <= 8; number++) {
            both(run, "pageClass", number, 0, 0);
            both(run, "counted", number, 0, 0);
        }
        for (int way = -1; way <= 6; way++) {
            for (int what = -1; what <= 8; what++) {
                both(run, "again", way, what, 0);
            }
        }
        both(run, "digest", 0, 0, 0);
    }

    private void both(int run, String call, int a, int b, int c) {
        if (used >= CALLS) {
            renew();
        }
        int deeds = plain.deeds();
        Object want = Checks.outcome(() -> onPlain(call, a, b, c));
        String what = "run " + run + ", deed " + plain.deeds() + ", way " + plain.way() + ": " + call + "(" + a + ", "
            + b + ", " + c + ")";
        Checks.due(what, want, () -> onLab(call, a, b, c));
        used++;
        boolean begun = call.equals("reset") && want instanceof Integer;
        if (begun) {
            made.clear();
        }
        if (begun || plain.deeds() != deeds) {
            made.add(new Made(call, a, b, c));
        }
    }

    /** Nothing is promised of an object after its 512th call: a new one is brought to the same state. */
    private void renew() {
        lab = new HeapwrightLab();
        used = made.size();
        for (Made each : made) {
            onLab(each.call, each.a, each.b, each.c);
        }
    }

    private int drawn(int bound) {
        state = state * 6364136223846793005L + 1442695040888963407L;
        return (int) ((state >>> 33) % bound);
    }

    private int odd(int bound) {
        return drawn(12) == 0 ? ODD[drawn(ODD.length)] : drawn(bound);
    }

    private Object onLab(String call, int a, int b, int c) {
        switch (call) {
            case "reset": return lab.reset(a, b, c);
            case "ask": return lab.ask(a);
            case "giveBack": return lab.giveBack(a);
            case "resize": return lab.resize(a, b);
            case "together": return lab.together();
            case "open": return lab.open();
            case "close": return lab.close();
            case "way": return lab.way();
            case "names": return lab.names();
            case "deeds": return lab.deeds();
            case "arenas": return lab.arenas();
            case "isThere": return lab.isThere(a);
            case "place": return lab.place(a);
            case "size": return lab.size(a);
            case "room": return lab.room(a);
            case "at": return lab.at(a);
            case "blocks": return lab.blocks();
            case "holes": return lab.holes();
            case "holePlace": return lab.holePlace(a);
            case "holeSize": return lab.holeSize(a);
            case "pageClass": return lab.pageClass(a);
            case "hand": return lab.hand();
            case "used": return lab.used();
            case "wasted": return lab.wasted();
            case "largest": return lab.largest();
            case "broken": return lab.broken();
            case "counted": return lab.counted(a);
            case "peak": return lab.peak();
            case "wouldBe": return lab.wouldBe(a);
            case "greatest": return lab.greatest();
            case "again": return lab.again(a, b);
            case "bestWay": return lab.bestWay();
            case "largestWithout": return lab.largestWithout(a);
            default: return lab.digest();
        }
    }

    private Object onPlain(String call, int a, int b, int c) {
        switch (call) {
            case "reset": return plain.reset(a, b, c);
            case "ask": return plain.ask(a);
            case "giveBack": return plain.giveBack(a);
            case "resize": return plain.resize(a, b);
            case "together": return plain.together();
            case "open": return plain.open();
            case "close": return plain.close();
            case "way": return plain.way();
            case "names": return plain.names();
            case "deeds": return plain.deeds();
            case "arenas": return plain.arenas();
            case "isThere": return plain.isThere(a);
            case "place": return plain.place(a);
            case "size": return plain.size(a);
            case "room": return plain.room(a);
            case "at": return plain.at(a);
            case "blocks": return plain.blocks();
            case "holes": return plain.holes();
            case "holePlace": return plain.holePlace(a);
            case "holeSize": return plain.holeSize(a);
            case "pageClass": return plain.pageClass(a);
            case "hand": return plain.hand();
            case "used": return plain.used();
            case "wasted": return plain.wasted();
            case "largest": return plain.largest();
            case "broken": return plain.broken();
            case "counted": return plain.counted(a);
            case "peak": return plain.peak();
            case "wouldBe": return plain.wouldBe(a);
            case "greatest": return plain.greatest();
            case "again": return plain.again(a, b);
            case "bestWay": return plain.bestWay();
            case "largestWithout": return plain.largestWithout(a);
            default: return plain.digest();
        }
    }
}
