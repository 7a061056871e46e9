/** The boundary cases of promises 26 to 34 and of WANDER, LAND, APART, BY SORT, BLIND, LEAN, AHEAD and NEXT: one test for each sentence. */
public final class LandEdgesTest extends Checks {
    private static final String RING = "land l;ring a l";
    private static final String ONE = RING + SQUARE + ";grid 0 1;";

    public static void main(String[] args) {
        wanderCutUpwards();
        wanderOfTimesAboveNothing();
        wanderByHalves();
        wanderOfLands();
        noSuchWander();
        landsAlone();
        noSuchLand();
        apartOfLands();
        apartOfNone();
        bySort();
        noSuchSort();
        blindAndOthers();
        noSuchBlind();
        leanInLeastTerms();
        leanWithout();
        noSuchLean();
        aheadByN();
        aheadOfOthers();
        aheadOfNone();
        noSuchAhead();
        nextOfSeveral();
        nextOfNone();
        counts();
        anotherCount();
        allCallsOfAnObject();
        end();
    }

    // ---- wander

    private static void wanderCutUpwards() {
        says("OFF by TIMES, cut upwards: the greatest of RINGS");
        YardRings x = told(ONE);
        // 20000 by 4000 is 5 times: by 4001 it is off 5, by 4002 off 10.
        int[][] rows = {{4000, 0}, {4001, 1}, {4002, 2}, {3999, 1}, {3998, 2}, {2857, 1}, {2858, 1}, {2856, 2}, {3000, 143}, {9999, 1}, {9000, 1000}, {8000, 2000},
            {7999, 1333}, {8001, 1999}};
        for (int[] row : rows) {
            due("wander by " + row[0], x.wander(row[0], -1), row[1]);
        }
        YardRings y = told(RING + SQUARE + ";ring b l" + ring(10) + ";ring c l" + ring(30) + ";grid 0 1;");
        due("the greatest of three: 143, 1000, 0", y.wander(3000, -1), 1000);
    }

    private static void wanderOfTimesAboveNothing() {
        says("for a RING of which TIMES is above 0");
        YardRings x = told(RING + ring(10) + ";grid 0 1;");
        due("2000 by 3999 is once, off 1999", x.wander(3999, -1), 1999);
        due("2000 by 4000 is as near to 0 times", x.wander(4000, -1), 0);
        due("2000 by 4001 is 0 times", x.wander(4001, -1), 0);
        x.mode(0, true);
        due("2000 by halves of 8000", x.wander(8000, -1), 0);
        due("2000 by halves of 7998 is once", x.wander(7998, -1), 2 * 1999);
        due("a size of 0", told(RING + times(" stone 0 0", 3) + ";grid 0 1;").wander(100, -1), 0);
    }

    private static void wanderByHalves() {
        says("(twice it, if HALVES: TIMES count halves), cut upwards");
        YardRings x = told(ONE);
        x.mode(0, true);
        due("1000 by 13", x.wander(3000, -1), 77);
        due("whole", x.wander(4000, -1), 0);
        // By halves of 4001 it is 10 times 2000; by those of 4002 10 times 2001, off 10.
        due("the half is cut", x.wander(4001, -1), 0);
        due("20 by 10", x.wander(4002, -1), 2);
        due("40 by 10", x.wander(4004, -1), 4);
    }

    private static void wanderOfLands() {
        says("WANDER of a LAND (NONE: of all); 0 without RINGS");
        YardRings x = told("land l;land m;land n;land o;ring a l" + SQUARE + ";ring b m" + ring(10) + ";ring c n stone 1 1 stone 2 2;grid 0 1;");
        int[] due = {143, 1000, 0, 0};
        for (int land = 0; land < 4; land++) {
            due("land " + land, x.wander(3000, land), due[land]);
        }
        due("of all", x.wander(3000, -1), 1000);
        due("no rings", told("land l;").wander(3000, 0), 0);
        due("nothing", new YardRings().wander(3000, -1), 0);
    }

    private static void noSuchWander() {
        says("-2: no such ones");
        YardRings x = told(ONE + "land m;");
        for (int land : new int[] {-2, 2, 4, NO, MAX}) {
            due("land " + land, x.wander(3000, land), -2);
        }
        for (int unit : new int[] {99, 10000, 0, NO, MAX}) {
            due("unit " + unit, x.wander(unit, -1), -2);
            due("unit " + unit, x.wander(unit, 0), -2);
        }
        due("no lands", new YardRings().wander(3000, 0), -2);
    }

    // ---- lands and sorts

    private static void landsAlone() {
        says("LAND's BEST UNIT likewise by its RINGS alone");
        YardRings x = told("land l;land m;ring a l" + ring(1) + ";ring b m" + ring(8) + ";grid 0 1;");
        // 200 and 1600 by 250, 400, 550: 800 and 1600, 2000 and 0, 1454 and 363.
        due("of l", x.land(0, 250, 550, 150), 250);
        due("of m", x.land(1, 250, 550, 150), 400);
        due("of all", x.unit(250, 550, 150, 0), 550);
        due("of several the least", x.land(1, 100, 400, 100), 100);
        due("the last of them", x.land(1, 300, 400, 100), 400);
        x.mode(0, true);
        due("of l by halves of 250, 400", x.land(0, 250, 400, 150), 400);
    }

    private static void noSuchLand() {
        says("A LAND's BEST UNIT; NONE: no RING with a FIT, no such ones.");
        YardRings x = told("land l;land m;land n;land o;ring a l" + SQUARE + ";ring b m stone 1 1 stone 2 2;ring c o" + SQUARE + ";");
        due("the first", x.land(0, 100, 200, 1), 100);
        due("the last", x.land(3, 100, 200, 1), x.unit(100, 200, 1, 0));
        due("a ring without a fit", x.land(1, 100, 200, 1), -1);
        due("no ring", x.land(2, 100, 200, 1), -1);
        for (int land : new int[] {-1, 4, 5, NO, MAX}) {
            due("land " + land, x.land(land, 100, 200, 1), -1);
        }
        due("nothing", new YardRings().land(0, 100, 200, 1), -1);
        x.gone(0, 0, true);
        x.gone(0, 1, true);
        due("no fit any more", x.land(0, 100, 200, 1), -1);
    }

    private static void apartOfLands() {
        says("APART: the greatest less the least of LANDS that have a RING with a FIT");
        String two = "land l;land m;ring a l" + ring(1) + ";ring b m" + ring(8) + ";grid 0 1;";
        due("400 less 250", told(two).apart(250, 550, 150), 150);
        due("one unit", told(two).apart(250, 250, 1), 0);
        due("lands without a fit don't count", told("land k;" + two + "land n;ring c k stone 1 1;ring d n stone 1 1 stone 1 1;").apart(250, 550, 150), 150);
        due("one land alone", told("land k;land l;ring a l" + SQUARE + ";").apart(100, 999, 1), 0);
        due("the other way round", told("land l;land m;ring a l" + ring(8) + ";ring b m" + ring(1) + ";grid 0 1;").apart(250, 550, 150), 150);
        due("four lands", told("land l;land m;land n;land o;ring a l" + ring(8) + ";ring b m" + ring(1) + ";ring c n" + ring(8) + ";ring d o" + ring(11)
            + ";grid 0 1;").apart(250, 550, 150), 300);
    }

    private static void apartOfNone() {
        says("APART; NONE: no LAND has one, no such ones.");
        due("no lands", new YardRings().apart(100, 200, 1), -1);
        due("no rings", told("land l;land m;").apart(100, 200, 1), -1);
        due("no fit", told("land l;ring a l stone 1 1 stone 2 2;").apart(100, 200, 1), -1);
        due("no such units", told(ONE).apart(100, 1100, 1), -1);
        due("as many as can be", told(ONE).apart(100, 1099, 1), 0);
    }

    private static void bySort() {
        says("BY SORT: LUMPS of RINGS of which BEST is a SORT, and how many there are");
        // Round, flattened (750), an egg (to the south, 1688), and one without a fit.
        YardRings x = told(RING + SQUARE + ";ring b l stone 3 0 stone -3 0 stone 0 4 stone 0 -4;"
            + "ring c l stone 6 0 stone -9 0 stone 0 12 stone 0 -15 stone 3 3;ring d l stone 1 1 stone 2 2;ring e l" + ring(10) + ";grid 0 1;");
        int[] many = {2, 1, 1};
        int[] lumps = {4000 * 2000 / 6000 + 4000 * 2000 / 6000, 4000 * 750 / 6000, 4000 * 1688 / 6000};
        for (int sort = 0; sort < 3; sort++) {
            due("how many of sort " + sort, x.sort(sort, 6000, 1), many[sort]);
            due("lumps of sort " + sort, x.sort(sort, 6000, 0), lumps[sort]);
        }
        due("an egg's size", x.best(2, 2), 1688);
        due("lumps of all", x.lumps(6000), lumps[0] + lumps[1] + lumps[2]);
        YardRings y = told(ONE);
        for (int sort = 1; sort < 3; sort++) {
            due("none of sort " + sort, y.sort(sort, 3000, 1), 0);
            due("no lumps of sort " + sort, y.sort(sort, 3000, 0), 0);
        }
        due("no rings", new YardRings().sort(0, 3000, 1), 0);
        y.mode(0, true);
        due("by halves: 500 of 1500", y.sort(0, 3000, 0), 1333);
    }

    private static void noSuchSort() {
        says("BY SORT, what 0: LUMPS, 1: how many. NONE: no such ones.");
        YardRings x = told(ONE);
        for (int sort : new int[] {-1, 3, NO, MAX}) {
            due("sort " + sort, x.sort(sort, 3000, 0), -1);
            due("sort " + sort, x.sort(sort, 3000, 1), -1);
        }
        for (int what : new int[] {-1, 2, NO, MAX}) {
            due("what " + what, x.sort(0, 3000, what), -1);
        }
    }

    // ---- sayings

    private static void blindAndOthers() {
        says("BLIND by a UNIT: of SAYINGS that are BLIND the sum of OFF and how many; of the others likewise");
        YardRings x = told(RING + ";said k a 150 blind;said k a 151;said j a 50 blind;said k a 99999;said k a 1 blind;");
        int[] due = {101, 3, 50, 2};
        for (int what = 0; what < 4; what++) {
            due("blind(100, " + what + ")", x.blind(100, what), due[what]);
        }
        x.mode(0, true);
        int[] halves = {1, 3, 2, 2};
        for (int what = 0; what < 4; what++) {
            due("blind(100, " + what + ") by halves", x.blind(100, what), halves[what]);
        }
        YardRings y = told(RING + ";" + times("said k a 4999 blind;", 20));
        due("the sum of twenty", y.blind(9999, 0), 20 * 4999);
        due("twenty", y.blind(9999, 1), 20);
        due("no others", y.blind(9999, 2), 0);
        due("no others", y.blind(9999, 3), 0);
        for (int what = 0; what < 4; what++) {
            due("no sayings", new YardRings().blind(100, what), 0);
        }
    }

    private static void noSuchBlind() {
        says("of those BLIND, 2, 3: of the others. NONE: no such ones.");
        YardRings x = told(RING + ";said k a 150 blind;");
        for (int what : new int[] {-1, 4, NO, MAX}) {
            due("what " + what, x.blind(100, what), -1);
        }
        for (int unit : new int[] {99, 10000, NO, MAX}) {
            due("unit " + unit, x.blind(unit, 0), -1);
        }
    }

    private static void lean(String sayings, int above, int below) {
        YardRings x = told(ONE + sayings);
        due("above of " + sayings, x.lean(0, 0), above);
        due("below of " + sayings, x.lean(0, 1), below);
    }

    private static void leanInLeastTerms() {
        says("LEAN of a measurer: the sum of what he said less the RINGS' SIZES (with a FIT), by how many, in least terms");
        lean("said k a 20000;", 0, 1);
        lean("said k a 20000;said k a 20000;said k a 20000;", 0, 1);
        lean("said k a 20001;said k a 19999;", 0, 1);
        lean("said k a 20001;", 1, 1);
        lean("said k a 19999;", -1, 1);
        lean("said k a 20001;said k a 20000;", 1, 2);
        lean("said k a 19999;said k a 20000;", -1, 2);
        lean("said k a 19998;said k a 19998;", -2, 1);
        lean("said k a 19998;said k a 19998;said k a 20000;said k a 20000;said k a 20000;said k a 20000;", -2, 3);
        lean("said k a 20002;said k a 20002;said k a 20000;said k a 20000;said k a 20000;said k a 20000 blind;", 2, 3);
        lean("said k a 99999;said j a 1;", 79999, 1);
        lean("said k a 1 blind;said j a 99999;", -19999, 1);
        YardRings x = told(RING + times(" stone 0 0", 3) + ";grid 0 1;" + times("said k a 99999;", 20));
        due("twenty of the greatest", x.lean(0, 0), 99999);
        due("by one", x.lean(0, 1), 1);
        YardRings y = told(RING + SQUARE + ";ring b l" + ring(10) + ";grid 0 1;said j a 20000;said k a 20003;said k b 2001;");
        due("of two rings: 3 and 1 by 2", y.lean(1, 0), 2);
        due("by one", y.lean(1, 1), 1);
    }

    private static void leanWithout() {
        says("(with a FIT), in least terms (0 by 0 without)");
        YardRings x = told(RING + SQUARE + ";ring b l stone 1 1 stone 2 2;grid 0 1;said k b 500;said j b 500;said j a 20007;");
        due("k has none with a fit", x.lean(0, 0), 0);
        due("by 0", x.lean(0, 1), 0);
        due("j has one", x.lean(1, 0), 7);
        due("by 1", x.lean(1, 1), 1);
        x.gone(0, 0, true);
        x.gone(0, 1, true);
        due("j has none any more", x.lean(1, 0), 0);
        due("by 0", x.lean(1, 1), 0);
    }

    private static void noSuchLean() {
        says("LEAN of a measurer, what 0: the number above, 1: the one below. Integer.MIN_VALUE: no such ones.");
        YardRings x = told(ONE + "said k a 1;said j a 1;");
        for (int measurer : new int[] {-1, 2, 6, NO, MAX}) {
            due("measurer " + measurer, x.lean(measurer, 0), NO);
            due("measurer " + measurer, x.lean(measurer, 1), NO);
        }
        for (int what : new int[] {-1, 2, NO, MAX}) {
            due("what " + what, x.lean(1, what), NO);
        }
        due("the last measurer", x.lean(1, 1), 1);
        due("no measurers", new YardRings().lean(0, 0), NO);
    }

    // ---- ahead and next

    private static void aheadByN() {
        says("AHEAD by n: BEST UNIT (a .. b by c) as KNOWN by n NOTES");
        YardRings x = told(RING + ring(10) + " stone 20 0 gone;grid 0 1;");
        due("by no notes of none", x.ahead(0, 1900, 2100, 100, 0), 2000);
        due("one note is not there", x.ahead(1, 1900, 2100, 100, 0), -1);
        x.gone(0, 4, false);
        // The five are 4 east: away 600, 1077, 1400, 1077, 1600.
        due("the size since", x.best(0, 2) == 2000 ? 1 : 0, 0);
        due("by no notes as before", x.ahead(0, 1900, 2100, 100, 0), 2000);
        due("by one as now", x.ahead(1, 1900, 2100, 100, 0), x.unit(1900, 2100, 100, 0));
        due("two notes are not there", x.ahead(2, 1900, 2100, 100, 0), -1);
        due("one has another size", x.ahead(0, 1900, 2100, 100, 2), 1);
        due("by one none has", x.ahead(1, 1900, 2100, 100, 2), 0);
        YardRings y = told(RING + ring(10) + ";grid 0 1;");
        y.tape(0, 0, 20, 0);
        due("the first stone alone is another", y.ahead(0, 1900, 2100, 100, 0), 2000);
        due("another size", y.ahead(0, 1900, 2100, 100, 2), 1);
        due("lumps as now", y.lumps(1000) == 0 ? 1 : 0, 0);
        due("they don't count then", y.ahead(0, 2000, 2600, 1, 0), 2000);
        // A note that a later one strikes still counts by the notes before that.
        y.strike(0);
        due("by one note it counts", y.ahead(1, 1900, 2100, 100, 2), 1);
        due("by two it is struck", y.ahead(2, 1900, 2100, 100, 2), 0);
        due("by none it wasn't there", y.ahead(0, 1900, 2100, 100, 2), 0);
        y.known(1);
        due("as known now by one", y.ahead(2, 1900, 2100, 100, 2), 1);
        due("as known now by one", y.ahead(1, 1900, 2100, 100, 2), 0);
        due("known stays", y.count(6), 1);
    }

    private static void aheadOfOthers() {
        says("then how many RINGS that have a FIT as KNOWN now and had none then, or another SIZE, are NEAR by it, and how many there are");
        YardRings x = told(RING + SQUARE + ";ring b l" + ring(10) + " stone 0 0 gone;ring c l" + ring(10) + ";ring d l stone 10 0 stone 0 10 gone stone -10 0 gone "
            + "stone 0 -10 gone;grid 0 1;");
        due("none yet", x.ahead(0, 4000, 4000, 1, 2), 0);
        due("none yet near", x.ahead(0, 4000, 4000, 1, 1), 0);
        // d has a fit now and had none.
        x.gone(3, 1, false);
        due("two stones are none", x.ahead(0, 2000, 2000, 1, 2), 0);
        x.gone(3, 2, false);
        x.gone(3, 3, false);
        due("a fit, and none then", x.ahead(0, 2000, 2000, 1, 2), 1);
        due("it is near", x.ahead(0, 2000, 2000, 1, 1), 1);
        due("by 4000 it isn't", x.ahead(0, 4000, 4000, 1, 1), 0);
        due("of one", x.ahead(0, 4000, 4000, 1, 2), 1);
        due("none since", x.ahead(3, 2000, 2000, 1, 2), 0);
        // c from 2000 to 20000: each stone ten times as far.
        x.tape(2, 0, 100, 0);
        x.tape(2, 1, 0, 100);
        x.tape(2, 2, -100, 0);
        x.tape(2, 3, 0, -100);
        due("another size", x.ahead(3, 4000, 4000, 1, 2), 1);
        due("it is near by 4000", x.ahead(3, 4000, 4000, 1, 1), 1);
        due("with d two", x.ahead(0, 4000, 4000, 1, 2), 2);
        due("one of them is near", x.ahead(0, 4000, 4000, 1, 1), 1);
        YardRings y = told(RING + ring(10) + ";grid 0 1;near unit=2000;");
        y.tape(0, 0, 11, 0);
        due("by just the unit that was best then", y.ahead(0, 1999, 2001, 1, 1), 1);
        // Another place of the same size doesn't count.
        for (int stone = 0; stone < 4; stone++) {
            x.tape(0, stone, looked(x, 0, stone, 0) + 7, looked(x, 0, stone, 1) - 5);
        }
        due("the same size elsewhere", x.ahead(7, 4000, 4000, 1, 2), 0);
        // A ring that has no fit now doesn't count.
        x.gone(2, 0, true);
        x.gone(2, 1, true);
        due("no fit any more", x.ahead(3, 4000, 4000, 1, 2), 0);
    }

    private static void aheadOfNone() {
        says("AHEAD by n, what 0: the UNIT: of no ring that had a FIT then, of several the least");
        YardRings x = told(RING + " stone 10 0 stone 0 10 stone -10 0 gone;grid 0 1;");
        x.gone(0, 2, false);
        due("no fit then: the least", x.ahead(0, 300, 500, 100, 0), 300);
        due("one since", x.ahead(0, 300, 500, 100, 2), 1);
        due("nothing", new YardRings().ahead(0, 300, 500, 100, 0), 300);
        due("nothing since", new YardRings().ahead(0, 300, 500, 100, 1), 0);
        due("of none", new YardRings().ahead(0, 300, 500, 100, 2), 0);
    }

    private static void noSuchAhead() {
        says("AHEAD by n, what 0: the UNIT, 1: how many are NEAR, 2: of how many. NONE: no such ones.");
        YardRings x = told(ONE);
        x.tape(0, 0, 90, 0);
        x.tape(0, 0, 80, 0);
        String before = all(x);
        for (int n : new int[] {-1, -2, 3, 60, NO, MAX}) {
            for (int what = 0; what < 3; what++) {
                due("n " + n, x.ahead(n, 100, 200, 1, what), -1);
            }
        }
        for (int what : new int[] {-1, 3, NO, MAX}) {
            due("what " + what, x.ahead(0, 100, 200, 1, what), -1);
        }
        yes("n 2", x.ahead(2, 100, 200, 1, 0) >= 100);
        yes("1000 units", x.ahead(2, 100, 1099, 1, 0) >= 100);
        due("1001 units", x.ahead(2, 100, 1100, 1, 0), -1);
        same("after that", all(x), before);
    }

    private static void nextOfSeveral() {
        says("NEXT: the RING with the widest SPAN (greatest less least), of several the first");
        String grid = "grid 0 1;slack 9999;";
        // Of 10 and of 11 the span is 300, of 12 it is 350.
        due("of two sizes as wide", told(RING + ring(10) + ";ring b l" + ring(11) + ";" + grid).next(), 0);
        due("of two as wide", told(RING + ring(10) + ";ring b l" + ring(10) + ";" + grid).next(), 0);
        due("the second wider", told(RING + ring(10) + ";ring b l" + ring(12) + ";" + grid).next(), 1);
        due("the first wider", told(RING + ring(12) + ";ring b l" + ring(10) + ";" + grid).next(), 0);
        due("one without a fit before", told(RING + " stone 1 1;ring b l" + ring(10) + ";ring c l" + ring(10) + ";" + grid).next(), 1);
        due("all of no width", told(RING + " stone 1 1;ring b l" + ring(10) + ";ring c l" + ring(10) + ";grid 0 1;slack 0;").next(), 1);
        StringBuilder eight = new StringBuilder("land l;" + grid);
        for (int i = 0; i < 8; i++) {
            eight.append("ring ").append((char) ('a' + i)).append(" l").append(i == 7 ? ring(3) : times(" stone 1 1", 3)).append(";");
        }
        due("the last of eight", told(eight.toString()).next(), 7);
    }

    private static void nextOfNone() {
        says("NEXT; NONE: no RING has a FIT.");
        due("nothing", new YardRings().next(), -1);
        due("no rings", told("land l;").next(), -1);
        due("two stones", told(RING + " stone 1 1 stone 2 2;").next(), -1);
        due("three", told(RING + " stone 1 1 stone 2 2 stone 3 3;").next(), 0);
        YardRings x = told(RING + " stone 1 1 again stone 2 2 stone 3 3;");
        x.mode(1, false);
        due("two by the mode", x.next(), -1);
    }

    // ---- count

    private static void counts() {
        says("0 LANDS, 1 RINGS, 2 WAYS, 3 SAYINGS, 4 measurers, 5 NOTES, 6 by how many it is KNOWN, 7 KNOTS, 8 G, 9 H, 10 SLACK, 11 MODE, 12 HALVES (1, 0), "
            + "13 RINGS with a FIT");
        StringBuilder full = new StringBuilder("land a;land b;land c;land d;");
        for (int i = 0; i < 8; i++) {
            full.append("ring ").append((char) ('a' + i)).append(" a").append(times(" stone7 8", 7)).append(";");
        }
        for (int i = 0; i < 5; i++) {
            full.append("way ").append((char) ('a' + i)).append(" 1 1 1 1 1 1 1;");
        }
        YardRings x = told(full.toString());
        for (int i = 0; i < 60; i++) {
            x.tape(7, 6, i, i);
        }
        int[] due = {4, 8, 5, 0, 0, 60, 60, 0, 4, 6, 300, 0, 0, 8};
        for (int what = 0; what < due.length; what++) {
            due("count(" + what + ") of a full one", x.count(what), due[what]);
        }
        due("the last stone as taped last", looked(x, 7, 6, 0), 59);
        StringBuilder other = new StringBuilder("land l;ring a l;grid 9 20;slack 9999;near " + times("not ", 63) + "1;");
        for (int i = 0; i < 20; i++) {
            other.append("said ").append((char) ('a' + i % 6)).append(" a 1;");
        }
        tell(x, other.toString());
        x.mode(3, true);
        int[] then = {1, 1, 0, 20, 6, 0, 0, 64, 9, 20, 9999, 3, 1, 0};
        for (int what = 0; what < then.length; what++) {
            due("count(" + what + ") of another full one", x.count(what), then[what]);
        }
    }

    private static void anotherCount() {
        says("NONE for another what");
        YardRings x = told(ONE);
        for (int what : new int[] {-1, 14, 15, NO, MAX}) {
            due("count(" + what + ")", x.count(what), -1);
        }
    }

    private static void allCallsOfAnObject() {
        says("An object is used for at most 512 calls after it has been made");
        YardRings x = new YardRings();
        String text = RING + ring(10) + ";grid 0 1;";
        int each = (text.length() + 19) / 20 + 1 + 6;
        int calls = 0;
        for (; calls + each < 512; calls += each) {
            due("the text", tell(x, text), 3);
            due("a note", x.tape(0, 0, 20, 0), 0);
            due("gone", x.gone(0, 0, true), 1);
            yes("a mode", x.mode(calls % 4, calls % 2 == 0));
            due("ahead", x.ahead(0, 1900, 2100, 100, 0), 2000);
            due("a strike", x.strike(1), 2);
            due("x", looked(x, 0, 0, 0), 20);
        }
        for (; calls < 511; calls++) {
            yes("known", x.known(calls % 4));
        }
        due("the last call", x.count(5), 3);
    }
}
