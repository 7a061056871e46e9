/**
 * Each argument of each call: the last value that is taken and the first that is refused, on both sides; a refused call
 * answers as the document says and changes nothing, and no call throws whatever its arguments are.
 */
public final class RefusedCallsTest extends Checks {
    private interface Call {
        long of(YardRings x, int[] a);
    }

    private static final String TEXT = "land l;land a;ring a l" + SQUARE + ";ring b a" + ring(35) + ";way l 9 1 2 3 4 5 6;way a 5 6 5 4 3 2 1;"
        + "said l a 20100 blind;said a b 7001;near off<1001;grid 0 1;slack 7;";
    private static final int[] EXTREMES = {NO, NO + 1, -1000, -2, -1, 0, 1, 3, 100, 1000, MAX - 1, MAX};

    public static void main(String[] args) {
        notesAndModes();
        fits();
        units();
        manyUnits();
        theRest();
        looks();
        tapes();
        nothingThere();
        end();
    }

    private static YardRings made() {
        YardRings x = told(TEXT);
        x.tape(0, 0, 101, 0);
        x.tape(0, 0, 100, 0);
        x.feed(0x20202020, 0x20202020, 0x20202020, 0x20202020, 0x20202020);
        return x;
    }

    private static int[] with(int[] base, int at, int value) {
        int[] a = base.clone();
        a[at] = value;
        return a;
    }

    /** The base is taken, and each argument of it may be from its least to its greatest value. */
    private static void edges(String name, Call call, long refusal, int[] base, int[]... bounds) {
        says(name + "(): " + refusal + " for no such ones");
        for (int i = 0; i < base.length; i++) {
            for (int value : bounds[i]) {
                no(name + " takes " + value + " as argument " + i, call.of(made(), with(base, i, value)) == refusal);
            }
            YardRings x = made();
            String before = all(x);
            int least = bounds[i][0];
            int most = bounds[i][1];
            if (least != NO) {
                due(name + " with " + (least - 1) + " as argument " + i, call.of(x, with(base, i, least - 1)), refusal);
                due(name + " with the least int as argument " + i, call.of(x, with(base, i, NO)), refusal);
            }
            if (most != MAX) {
                due(name + " with " + (most + 1) + " as argument " + i, call.of(x, with(base, i, most + 1)), refusal);
                due(name + " with the greatest int as argument " + i, call.of(x, with(base, i, MAX)), refusal);
            }
            same("after refused calls of " + name, all(x), before);
        }
        neverThrows(call, base.length);
    }

    /** Arguments far out, all at once; an exception would end the test. */
    private static void neverThrows(Call call, int arguments) {
        int[] a = new int[arguments];
        int rounds = 1;
        for (int i = 0; i < arguments && rounds < 3000; i++) {
            rounds *= EXTREMES.length;
        }
        YardRings x = made();
        YardRings empty = new YardRings();
        for (int round = 0; round < rounds; round++) {
            int rest = round * (arguments > 3 ? 7919 : 1);
            for (int i = 0; i < arguments; i++) {
                a[i] = EXTREMES[Math.floorMod(rest, EXTREMES.length)];
                rest /= EXTREMES.length;
            }
            if (round % 300 == 299) {
                x = made();
                empty = new YardRings();
            }
            call.of(x, a);
            call.of(empty, a);
        }
    }

    private static int[] to(int least, int most) {
        return new int[] {least, most};
    }

    private static void notesAndModes() {
        edges("about", (x, a) -> x.about(a[0], a[1]), -1, new int[] {0, 0}, to(0, 1), to(0, 2));
        edges("tape", (x, a) -> x.tape(a[0], a[1], a[2], a[3]), -1, new int[] {0, 0, 0, 0}, to(0, 1), to(0, 3), to(-999, 999), to(-999, 999));
        edges("gone", (x, a) -> x.gone(a[0], a[1], true), -1, new int[] {0, 0}, to(0, 1), to(0, 3));
        edges("there", (x, a) -> x.gone(a[0], a[1], false), -1, new int[] {0, 0}, to(0, 1), to(0, 3));
        edges("strike", (x, a) -> x.strike(a[0]), -1, new int[] {0}, to(0, 1));
        edges("known", (x, a) -> x.known(a[0]) ? 1 : 0, 0, new int[] {0}, to(-1, 2));
        edges("mode", (x, a) -> x.mode(a[0], false) ? 1 : 0, 0, new int[] {0}, to(0, 3));
        edges("mode by halves", (x, a) -> x.mode(a[0], true) ? 1 : 0, 0, new int[] {0}, to(0, 3));
        edges("fault", (x, a) -> faulted().fault(a[0]), -1, new int[] {0}, to(0, 1));
        edges("named", (x, a) -> x.named(a[0], letters("a")), -1, new int[] {0}, to(0, 3));
        edges("count", (x, a) -> x.count(a[0]), -1, new int[] {0}, to(0, 13));
    }

    /** Another object whose latest text had a fault, so that its place is not NONE. */
    private static YardRings faulted() {
        YardRings other = new YardRings();
        tell(other, "land a;land a;");
        return other;
    }

    private static void fits() {
        edges("fit of round", (x, a) -> x.fit(a[0], 0, a[1], a[2]), NO, new int[] {0, 0, 0}, to(0, 1), to(0, 0), to(0, 3));
        edges("fit", (x, a) -> x.fit(a[0], a[1], a[2], a[3]), NO, new int[] {0, 1, 0, 0}, to(0, 1), to(0, 2), to(0, 3), to(0, 3));
        edges("best", (x, a) -> x.best(a[0], a[1]), -1, new int[] {0, 0}, to(0, 1), to(0, 3));
        edges("well", (x, a) -> x.well(a[0]), -1, new int[] {0}, to(0, 1));
        edges("span", (x, a) -> x.span(a[0], a[1]), -1, new int[] {0, 0}, to(0, 1), to(0, 1));
    }

    private static void units() {
        edges("whole", (x, a) -> x.whole(a[0], a[1], a[2]), -1, new int[] {1000, 700, 0}, to(0, 999999), to(100, 9999), to(0, 1));
        edges("near", (x, a) -> x.near(a[0]), -1, new int[] {700}, to(100, 9999));
        edges("lumps", (x, a) -> x.lumps(a[0]), -1, new int[] {700}, to(100, 9999));
        edges("odds", (x, a) -> x.odds(a[0], a[1]), -1, new int[] {700, 0}, to(100, 9999), to(0, 2));
        edges("chosen", (x, a) -> x.chosen(a[0], a[1]), -1, new int[] {700, 0}, to(100, 9999), to(0, 1));
        edges("tells", (x, a) -> x.tells(a[0], a[1], a[2]), -1, new int[] {0, 700, 0}, to(0, 1), to(100, 9999), to(0, 1));
        edges("hump", (x, a) -> x.hump(a[0], a[1]), -1, new int[] {700, 0}, to(100, 9999), to(0, 5));
        edges("wander", (x, a) -> x.wander(a[0], a[1]), -2, new int[] {700, 0}, to(100, 9999), to(-1, 1));
        edges("sort", (x, a) -> x.sort(a[0], a[1], a[2]), -1, new int[] {0, 700, 0}, to(0, 2), to(100, 9999), to(0, 1));
        edges("blind", (x, a) -> x.blind(a[0], a[1]), -1, new int[] {700, 0}, to(100, 9999), to(0, 3));
    }

    private static void manyUnits() {
        edges("unit from 100 on", (x, a) -> x.unit(a[0], a[1], a[2], a[3]), -1, new int[] {100, 1099, 1, 0}, to(100, 1099), to(100, 1099), to(1, 9999), to(0, 2));
        edges("unit up to 9999", (x, a) -> x.unit(a[0], a[1], a[2], a[3]), -1, new int[] {9000, 9999, 1, 0}, to(9000, 9999), to(9000, 9999), to(1, 9999), to(0, 2));
        edges("unit by 2", (x, a) -> x.unit(a[0], a[1], 2, a[2]), -1, new int[] {1002, 3001, 0}, to(1002, 3001), to(1002, 3001), to(0, 2));
        edges("any", (x, a) -> x.any(a[0], a[1], a[2], a[3], a[4], a[5]), -1, new int[] {100, 199, 1, 5, 7, 2}, to(100, 199), to(100, 199), to(1, 9999), to(0, 9999),
            to(0, MAX), to(1, 50));
        edges("any up to 9999", (x, a) -> x.any(a[0], a[1], a[2], a[3], a[4], a[5]), -1, new int[] {9900, 9999, 1, 5, 7, 2}, to(9900, 9999), to(9900, 9999),
            to(1, 9999), to(0, 9999), to(0, MAX), to(1, 50));
        edges("land", (x, a) -> x.land(a[0], a[1], a[2], a[3]), -1, new int[] {0, 100, 1099, 1}, to(0, 1), to(100, 1099), to(100, 1099), to(1, 9999));
        edges("land up to 9999", (x, a) -> x.land(a[0], a[1], a[2], a[3]), -1, new int[] {0, 9000, 9999, 1}, to(0, 1), to(9000, 9999), to(9000, 9999), to(1, 9999));
        edges("apart", (x, a) -> x.apart(a[0], a[1], a[2]), -1, new int[] {100, 1099, 1}, to(100, 1099), to(100, 1099), to(1, 9999));
        edges("apart up to 9999", (x, a) -> x.apart(a[0], a[1], a[2]), -1, new int[] {9000, 9999, 1}, to(9000, 9999), to(9000, 9999), to(1, 9999));
        edges("ahead", (x, a) -> x.ahead(a[0], a[1], a[2], a[3], a[4]), -1, new int[] {0, 100, 1099, 1, 0}, to(0, 2), to(100, 1099), to(100, 1099), to(1, 9999),
            to(0, 2));
        edges("ahead up to 9999", (x, a) -> x.ahead(a[0], a[1], a[2], a[3], a[4]), -1, new int[] {0, 9000, 9999, 1, 0}, to(0, 2), to(9000, 9999), to(9000, 9999),
            to(1, 9999), to(0, 2));
    }

    private static void theRest() {
        edges("lean", (x, a) -> x.lean(a[0], a[1]), NO, new int[] {0, 0}, to(0, 1), to(0, 1));
        edges("text", (x, a) -> x.text(a[0]), -2, new int[] {0}, to(0, 20));
    }

    private static void looks() {
        edges("look, ring and stone", (x, a) -> looked(x, a[0], a[1], 0), NO_INDEX, new int[] {0, 0}, to(0, 1), to(0, 3));
        edges("look, what", (x, a) -> looked(x, 0, 0, a[0]), NO_ELEMENT, new int[] {0}, to(0, 5));
        neverThrows((x, a) -> looked(x, a[0], a[1], a[2]), 3);
    }

    private static void tapes() {
        says("NONE, and none come, if it would have more than 900; NONE with a FAULT, all stays; -2, and the TAPE stays");
        YardRings x = made();
        String before = all(x);
        for (int i = 1; i < 45; i++) {
            x.feed(NO, MAX, -1, 0, 1);
        }
        due("a feed too much", x.feed(NO, MAX, -1, 0, 1), -1);
        due("too many bytes", x.text(901), -2);
        same("what is on the tape tells nothing", all(x), before);
        neverThrows((y, a) -> y.feed(a[0], a[1], a[2], a[3], a[4]), 5);
    }

    private static void nothingThere() {
        says("a new object: No TEXT, NOTES");
        YardRings x = new YardRings();
        String before = all(x);
        due("tape", x.tape(0, 0, 0, 0), -1);
        due("gone", x.gone(0, 0, true), -1);
        due("strike", x.strike(0), -1);
        no("known by one", x.known(1));
        no("no such mode", x.mode(4, true));
        due("text", x.text(1), -2);
        same("it is as it was", all(x), before);
        due("fit", x.fit(0, 0, 0, 0), NO);
        due("best", x.best(0, 0), -1);
        due("well", x.well(0), -1);
        due("span", x.span(0, 0), -1);
        due("near", x.near(100), 0);
        due("lumps", x.lumps(100), 0);
        due("unit", x.unit(100, 200, 1, 0), 100);
        due("its lumps", x.unit(100, 200, 1, 1), 0);
        due("odds", x.odds(100, 0), 1000000000);
        due("any", x.any(100, 199, 1, 9999, 1, 50), 50);
        due("chosen", x.chosen(100, 0), 0);
        due("tells", x.tells(0, 100, 0), -1);
        due("hump", x.hump(100, 0), 0);
        due("wander", x.wander(100, -1), 0);
        due("wander of a land", x.wander(100, 0), -2);
        due("land", x.land(0, 100, 200, 1), -1);
        due("apart", x.apart(100, 200, 1), -1);
        due("sort", x.sort(0, 100, 0), 0);
        due("blind", x.blind(100, 0), 0);
        due("lean", x.lean(0, 0), NO);
        due("ahead", x.ahead(0, 100, 200, 1, 0), 100);
        due("next", x.next(), -1);
    }
}
