/** The boundary cases of promises 17 to 25 and of OFF, TIMES, NEAR, LUMPS, ODDS, ANY, CHOSEN, WAYS and HUMP: one test for each sentence. */
public final class UnitEdgesTest extends Checks {
    private static final String RING = "land l;ring a l";
    private static final String ONE = RING + SQUARE + ";grid 0 1;";
    private static final int PARTS = 1000000000;
    private static final int[] NO_UNITS = {99, 10000, 0, -1, -100, NO, MAX};

    public static void main(String[] args) {
        sizesAndUnits();
        timesOfTwoAsNear();
        halvesCut();
        noSuchWhole();
        nearWithoutARule();
        nearByARule();
        nearOfRingsWithoutAFit();
        valuesAreOneOrNothing();
        bothSidesAreWorkedOut();
        divisionsCut();
        errorsByNothing();
        errorsBeyond();
        errorsThatWrap();
        lumpsCutEach();
        bestUnitOfSeveral();
        howManyUnits();
        noSuchUnits();
        oddsCutEach();
        oddsOfRemainders();
        oddsOfSoMany();
        numbersCut();
        drawsOfManyRings();
        sizesBelowNothing();
        asFewAtLeast();
        noSuchDraws();
        chosenOfSeveral();
        noSuchChosen();
        binsCut();
        tellsInLeastTerms();
        tellsNothing();
        noSuchUnit();
        end();
    }

    // ---- off and times

    private static void sizesAndUnits() {
        says("A size (0 .. 999999) by a UNIT (hundredths, 100 .. 9999), what 0: OFF, 1: TIMES");
        YardRings x = new YardRings();
        int[][] rows = {{0, 100, 0, 0}, {0, 9999, 0, 0}, {1, 100, 1, 0}, {99, 100, 1, 1}, {100, 100, 0, 1}, {101, 100, 1, 1}, {999999, 100, 1, 10000},
            {999999, 9999, 99, 100}, {999998, 9999, 98, 100}, {999900, 9999, 0, 100}, {994900, 9999, 4999, 99}, {994901, 9999, 4999, 100}, {4999, 9999, 4999, 0}, {5000, 9999, 4999, 1}};
        for (int[] row : rows) {
            due("off of " + row[0] + " by " + row[1], x.whole(row[0], row[1], 0), row[2]);
            due("times of " + row[0] + " by " + row[1], x.whole(row[0], row[1], 1), row[3]);
        }
    }

    private static void timesOfTwoAsNear() {
        says("TIMES: that nearest one (of two as near the lesser)");
        YardRings x = new YardRings();
        int[][] rows = {{49, 100, 49, 0}, {50, 100, 50, 0}, {51, 100, 49, 1}, {149, 100, 49, 1}, {150, 100, 50, 1}, {151, 100, 49, 2}, {50, 101, 50, 0},
            {51, 101, 50, 1}, {999950, 100, 50, 9999}};
        for (int[] row : rows) {
            due("off of " + row[0] + " by " + row[1], x.whole(row[0], row[1], 0), row[2]);
            due("times of " + row[0] + " by " + row[1], x.whole(row[0], row[1], 1), row[3]);
        }
        x.mode(0, true);
        int[][] halves = {{24, 100, 24, 0}, {25, 100, 25, 0}, {26, 100, 24, 1}, {75, 100, 25, 1}, {76, 100, 24, 2}};
        for (int[] row : halves) {
            due("off of " + row[0] + " by halves of " + row[1], x.whole(row[0], row[1], 0), row[2]);
            due("times of " + row[0] + " by halves of " + row[1], x.whole(row[0], row[1], 1), row[3]);
        }
    }

    private static void halvesCut() {
        says("how far it is from the nearest times of it (of its halves, by 2, cut, if HALVES)");
        YardRings x = new YardRings();
        x.mode(0, true);
        int[][] rows = {{100, 101, 0, 2}, {101, 101, 1, 2}, {4999, 9999, 0, 1}, {9998, 9999, 0, 2}, {999999, 9999, 199, 200}, {999999, 100, 1, 20000},
            {999999, 101, 1, 20000}, {50, 100, 0, 1}, {51, 103, 0, 1}};
        for (int[] row : rows) {
            due("off of " + row[0] + " by halves of " + row[1], x.whole(row[0], row[1], 0), row[2]);
            due("times of " + row[0] + " by halves of " + row[1], x.whole(row[0], row[1], 1), row[3]);
        }
    }

    private static void noSuchWhole() {
        says("what 0: OFF, 1: TIMES. NONE: no such ones.");
        YardRings x = new YardRings();
        for (int what = 0; what < 2; what++) {
            for (int size : new int[] {-1, 1000000, -100, NO, MAX}) {
                due("size " + size, x.whole(size, 100, what), -1);
            }
            for (int unit : NO_UNITS) {
                due("unit " + unit, x.whole(1000, unit, what), -1);
            }
        }
        for (int what : new int[] {-1, 2, NO, MAX}) {
            due("what " + what, x.whole(1000, 100, what), -1);
        }
        x.mode(0, true);
        due("unit 99 by halves", x.whole(1000, 99, 0), -1);
        due("unit 1 by halves", x.whole(1000, 1, 0), -1);
    }

    // ---- near

    private static void nearWithoutARule() {
        says("without a RULE: 8 OFF at most UNIT");
        YardRings x = told(RING + SQUARE + ";ring b l" + ring(35) + ";grid 0 1;");
        // 20000 is 3 times 6400 and 800: 8 times 800 is 6400. By 6399 it is off 803, by 6401 off 797.
        due("8 off above the unit", x.near(6399) & 1, 0);
        due("8 off as the unit", x.near(6400) & 1, 1);
        due("8 off below the unit", x.near(6401) & 1, 1);
        // 20000 is 7 times 2807 and 351, 8 times which is 2808; 50 times 399 and 50, 8 times which is 400.
        due("8 off just 1 above the unit", x.near(2807) & 1, 0);
        due("8 off just 1 above the unit", x.near(399) & 1, 0);
        // 7000 is 1000 below 8000.
        due("8 off below the unit", x.near(7999) & 2, 2);
        due("8 off as the unit", x.near(8000) & 2, 2);
        due("8 off above the unit", x.near(8001) & 2, 0);
        due("the least unit", x.near(100), 3);
        due("the greatest unit: off 2 and 2999", x.near(9999), 1);
    }

    private static void nearByARule() {
        says("It is NEAR, if the RULE's E isn't 0 by OFF, UNIT, SIZE, TIMES, STONES that STAND, SORT");
        String[] holds = {"off=1000", "unit=3000", "size=20*1000", "times=7", "stones=4", "sort=0", "1", "9999", "0-1"};
        for (String rule : holds) {
            due(rule, told(ONE + "near " + rule + ";").near(3000), 1);
        }
        due("0", told(ONE + "near 0;").near(3000), 0);
        due("0 though it is whole", told(ONE + "near off;").near(4000), 0);
        YardRings x = told(RING + SQUARE + " stone 0 0 again;grid 0 1;near stones=5;");
        due("five that stand", x.near(100), 1);
        x.mode(1, false);
        due("four by the mode", x.near(100), 0);
        YardRings y = told(ONE + "near times=13 and off=500 and unit=3000;");
        y.mode(0, true);
        due("by halves", y.near(3000), 1);
    }

    private static void nearOfRingsWithoutAFit() {
        says("RINGS that are NEAR by a UNIT (bits)");
        due("each second one", told(eight(2, 3) + "near 1;").near(100), 0xaa);
        due("all eight", told(eight(3, 3) + "near 1;").near(100), 0xff);
        due("none of eight", told(eight(2, 2) + "near 1;").near(100), 0);
        due("no rings", told("land l;near 1;").near(100), 0);
    }

    /** Eight rings, each of so many stones at 0, 0, by turns. */
    private static String eight(int stones, int others) {
        StringBuilder text = new StringBuilder("land l;grid 0 1;");
        for (int ring = 0; ring < 8; ring++) {
            text.append("ring ").append((char) ('a' + ring)).append(" l").append(times(" stone 0 0", ring % 2 == 0 ? stones : others)).append(";");
        }
        return text.toString();
    }

    private static void rule(String rule, int due) {
        due("near " + rule, told(ONE + "near " + rule + ";").near(3000), due);
    }

    private static void valuesAreOneOrNothing() {
        says("comparisons, and, or, not are 1 or 0 (what isn't 0 is as 1)");
        rule("(0 and 0)=0", 1);
        rule("(0 and 5)=0", 1);
        rule("(5 and 0)=0", 1);
        rule("(5 and 7)=1", 1);
        rule("((0-1) and (0-1))=1", 1);
        rule("(0 or 0)=0", 1);
        rule("(0 or 5)=1", 1);
        rule("(5 or 0)=1", 1);
        rule("((0-1) or 7)=1", 1);
        rule("(not 0)=1", 1);
        rule("(not 1)=0", 1);
        rule("(not 5)=0", 1);
        rule("(not (0-1))=0", 1);
        int[][] values = {{2, 3}, {3, 3}, {3, 2}};
        for (int[] v : values) {
            rule("(" + v[0] + "<" + v[1] + ")=" + (v[0] < v[1] ? 1 : 0), 1);
            rule("(" + v[0] + "<=" + v[1] + ")=" + (v[0] <= v[1] ? 1 : 0), 1);
            rule("(" + v[0] + "=" + v[1] + ")=" + (v[0] == v[1] ? 1 : 0), 1);
            rule("(" + v[0] + "<>" + v[1] + ")=" + (v[0] != v[1] ? 1 : 0), 1);
            rule("(" + v[0] + ">=" + v[1] + ")=" + (v[0] >= v[1] ? 1 : 0), 1);
            rule("(" + v[0] + ">" + v[1] + ")=" + (v[0] > v[1] ? 1 : 0), 1);
        }
    }

    private static void bothSidesAreWorkedOut() {
        says("both sides are worked out; not with an ERROR");
        rule("1 or 1/0", 0);
        rule("1/0 or 1", 0);
        rule("0 and 1/0", 0);
        rule("not (0 and 1/0)", 0);
        rule("not (1/0)", 0);
        rule("1/0=1/0", 0);
        rule("0*(1/0)=0", 0);
        rule("1 or 0", 1);
    }

    private static void divisionsCut() {
        says("/ is cut towards 0");
        rule("7/2=3", 1);
        rule("(0-7)/2=0-3", 1);
        rule("7/(0-2)=0-3", 1);
        rule("(0-7)/(0-2)=3", 1);
        rule("1/2=0", 1);
        rule("(0-1)/2=0", 1);
        rule("0/5=0", 1);
        rule("8/2=4", 1);
    }

    private static void errorsByNothing() {
        says("ERROR: / by 0");
        rule("1/0", 0);
        rule("0/0", 0);
        rule("1/(2-2)", 0);
        rule("1/(off-1000)", 0);
        rule("1/(off-999)", 1);
        rule("1/(not 1)+1", 0);
        rule("1+0/1", 1);
    }

    private static void errorsBeyond() {
        says("ERROR: a value above 10 to the 12 or below 0 by more than that");
        String most = "1000*1000*1000*1000";
        String less = "(1000*1000*1000*999+1000*1000*999+1000*999+999)";
        rule(most, 1);
        rule(most + "+0", 1);
        rule(most + "+1", 0);
        rule("1+" + most, 0);
        rule(less + "+1", 1);
        rule(less + "+2", 0);
        rule(less + "+1=" + most, 1);
        rule("0-" + most, 1);
        rule("0-" + most + "-1", 0);
        rule("0-" + less + "-1", 1);
        rule("0-" + less + "-2", 0);
        rule("1-" + most + "-1", 1);
        rule("1-" + most + "-2", 0);
        rule(most + "-(0-1)", 0);
        rule(most + "-1", 1);
        // What comes back below the limit was beyond it all the same.
        rule(most + "+1-1", 0);
        rule(most + "+1-" + most, 0);
        rule("not (" + most + "+1)", 0);
        String million = "(1000*1000)";
        rule(million + "*" + million, 1);
        rule(million + "*(" + million + "+1)", 0);
        rule("(" + million + "+1)*" + million, 0);
        rule("(0-" + million + ")*" + million, 1);
        rule("(0-" + million + ")*(" + million + "+1)", 0);
        rule("(0-" + million + ")*(0-" + million + ")", 1);
        rule("(0-" + million + "-1)*(0-" + million + ")", 0);
        rule("(" + million + "+1)*(0-" + million + ")", 0);
        rule(most + "*1", 1);
        rule(most + "*2", 0);
        rule(most + "*0=0", 1);
        rule("0*(" + most + ")=0", 1);
        rule("1*(" + most + ")", 1);
        rule("(0-1)*(" + most + ")=0-" + most, 1);
        rule(most + "/(0-1)", 1);
        rule("3*(1000*1000*1000*333+1000*1000*333+1000*333+333)", 1);
        rule("3*(1000*1000*1000*333+1000*1000*333+1000*333+334)", 0);
    }

    private static void errorsThatWrap() {
        says("VALUES are longs; ERROR: a value above 10 to the 12 or below 0 by more than that");
        // 2 to the 32 twice is 2 to the 64, which wraps around to 0; by 2 to the 31 less it is below 0.
        String two32 = "(4096*4096*256)";
        String two31 = "(4096*4096*128)";
        rule(two32, 1);
        rule(two32 + "*" + two32 + "=0", 0);
        rule("not (" + two32 + "*" + two32 + ")", 0);
        rule(two32 + "*" + two31 + "<0", 0);
        rule("(0-" + two32 + ")*" + two32 + "=0", 0);
        // 2 to the 64 and 2 to the 32 wraps around to a value that is within the limit.
        rule(two32 + "*(" + two32 + "+1)=" + two32, 0);
        rule("1000*1000*1000*1000*(1000*1000*1000*1000)", 0);
    }

    // ---- lumps and units

    private static void lumpsCutEach() {
        says("LUMPS of a UNIT: over RINGS with a FIT the sum of 4000 times OFF by the UNIT (the half by 2, cut, if HALVES), cut each");
        YardRings x = told(RING + SQUARE + ";ring b l" + ring(10) + ";ring c l stone 1 1 stone 2 2;grid 0 1;");
        due("571 and 1142, though 1714 together", x.lumps(7000), 1713);
        due("whole", x.lumps(2000), 0);
        due("half a unit is 2000 for each", told(RING + ring(1) + ";grid 0 1;").lumps(400), 2000);
        x.mode(0, true);
        due("by halves: 1000 and 1500 of 3500", x.lumps(7000), 1142 + 1714);
        due("by halves of 7001: 3500 too", x.lumps(7001), 1142 + 1714);
        due("no rings", new YardRings().lumps(100), 0);
        due("no fit", told(RING + " stone 1 1;").lumps(100), 0);
        due("of a small unit by halves: 200 by 50", told(RING + ring(1) + ";grid 0 1;").lumps(100), 0);
    }

    private static void bestUnitOfSeveral() {
        says("BEST UNIT of a .. b by c: the one with least LUMPS; of several the least");
        YardRings x = told(ONE);
        due("400, 500, 800 and 1000 are whole", x.unit(300, 1000, 100, 0), 400);
        due("its lumps", x.unit(300, 1000, 100, 1), 0);
        due("the first", x.unit(400, 1000, 100, 0), 400);
        due("the last", x.unit(300, 400, 100, 0), 400);
        due("not reached", x.unit(300, 399, 99, 0), 300 + (bestOff(300) <= bestOff(399) ? 0 : 99));
        due("one alone", x.unit(3000, 3000, 1, 0), 3000);
        due("its lumps", x.unit(3000, 3000, 1, 1), 1333);
        due("no rings: the least", new YardRings().unit(9000, 9999, 1, 0), 9000);
        due("no lumps", new YardRings().unit(9000, 9999, 1, 1), 0);
    }

    private static int bestOff(int unit) {
        int rest = 20000 % unit;
        return 4000 * Math.min(rest, unit - rest) / unit;
    }

    private static void howManyUnits() {
        says("(a at most b, c 1 .. 9999; at most 1000 UNITS), what 2: how many UNITS");
        YardRings x = told(ONE);
        int[][] rows = {{100, 100, 1, 1}, {100, 101, 1, 2}, {100, 1099, 1, 1000}, {100, 1100, 1, -1}, {9000, 9999, 1, 1000}, {8999, 9999, 1, -1},
            {100, 9999, 9999, 1}, {100, 9999, 9899, 2}, {100, 9999, 9900, 1}, {100, 9999, 10, 990}, {100, 9999, 9, -1}, {101, 2100, 2, 1000},
            {101, 2101, 2, -1}, {101, 2099, 2, 1000}, {101, 2098, 2, 999}, {100, 9999, 1, -1}, {9999, 9999, 9999, 1}};
        for (int[] row : rows) {
            due("units " + row[0] + " .. " + row[1] + " by " + row[2], x.unit(row[0], row[1], row[2], 2), row[3]);
            yes("a unit of them", row[3] < 0 == x.unit(row[0], row[1], row[2], 0) < 0);
            yes("of a land", row[3] < 0 == x.land(0, row[0], row[1], row[2]) < 0);
            yes("apart", row[3] < 0 == x.apart(row[0], row[1], row[2]) < 0);
            yes("ahead", row[3] < 0 == x.ahead(0, row[0], row[1], row[2], 0) < 0);
            yes("by draws at most 100", (row[3] < 0 || row[3] > 100) == x.any(row[0], row[1], row[2], 0, 0, 1) < 0);
        }
        due("the 1000th counts", x.unit(3001, 4000, 1, 0), 4000);
        due("100 units by draws", x.any(1000, 1099, 1, 0, 0, 1), 1);
        due("101 units by draws", x.any(1000, 1100, 1, 0, 0, 1), -1);
        due("100 units by draws, by 2", x.any(1000, 1199, 2, 0, 0, 1), 1);
        due("101 units by draws, by 2", x.any(1000, 1200, 2, 0, 0, 1), -1);
    }

    private static void noSuchUnits() {
        says("BEST UNIT of a .. b by c, what 0: it, 1: its LUMPS, 2: how many UNITS. NONE: no such ones.");
        YardRings x = told(ONE);
        x.tape(0, 0, 1, 1);
        int[][] rows = {{101, 100, 1}, {9999, 100, 1}, {99, 100, 1}, {99, 99, 1}, {NO, 100, 1}, {-1, 100, 1}, {9999, 10000, 1}, {100, MAX, 1}, {10000, 10000, 1},
            {100, NO, 1}, {MAX, MAX, 1}, {NO, NO, 1}, {NO, MAX, 1}, {NO, MAX, 9999}, {MAX, NO, 1}, {100, 200, 0}, {100, 200, -1}, {100, 200, 10000}, {100, 200, NO},
            {100, 200, MAX}, {100, 100, 0}, {0, 0, 0}};
        String before = all(x);
        for (int[] row : rows) {
            for (int what = 0; what < 3; what++) {
                due("units " + row[0] + " .. " + row[1] + " by " + row[2], x.unit(row[0], row[1], row[2], what), -1);
                due("ahead by them", x.ahead(0, row[0], row[1], row[2], what), -1);
            }
            due("a land's", x.land(0, row[0], row[1], row[2]), -1);
            due("apart by them", x.apart(row[0], row[1], row[2]), -1);
            due("draws by them", x.any(row[0], row[1], row[2], 0, 0, 1), -1);
        }
        for (int what : new int[] {-1, 3, NO, MAX}) {
            due("what " + what, x.unit(100, 200, 1, what), -1);
        }
        same("after that", all(x), before);
    }

    // ---- odds

    private static void oddsCutEach() {
        says("for each RING of each count PARTS times (u less NEAR ones) by u, and those of one less times NEAR ones by u, cut each");
        YardRings x = told(ONE);
        // Of 3000 places 751 are near: 250333333 and a third; of 749666666 and two thirds.
        due("one at least", x.odds(3000, 1), 250333333);
        due("none at least", x.odds(3000, 0), 999999999);
        YardRings y = told(RING + SQUARE + ";ring b l" + SQUARE + ";ring c l" + SQUARE + ";grid 0 1;near size<6667*3;");
        // By 300 sizes are 19800 .. 20099, of which 201 are below 20001.
        long[] row = {PARTS, 0, 0, 0};
        for (int ring = 0; ring < 3; ring++) {
            for (int k = 3; k >= 0; k--) {
                row[k] = row[k] * 99 / 300 + (k > 0 ? row[k - 1] * 201 / 300 : 0);
            }
        }
        due("none at least", y.odds(300, 0), row[0] + row[1] + row[2] + row[3]);
        due("one at least", y.odds(300, 1), row[1] + row[2] + row[3]);
        due("two at least", y.odds(300, 2), row[2] + row[3]);
        due("all", y.odds(300, 3), row[3]);
        YardRings z = told(RING + SQUARE + ";ring b l" + SQUARE + ";grid 0 1;near size=20*1000;");
        due("one place of 300 twice: 3333333 by 300", z.odds(300, 2), 11111);
        due("one at least: 3333333 and 996666666 by 300, cut each, and 11111", z.odds(300, 1), 3322221 + 3322222 + 11111);
    }

    private static void oddsOfRemainders() {
        says("of remainders 0 .. u less 1, as SIZE the RING's SIZE less its own remainder and that (TIMES with it)");
        // 20000 by 300 leaves 200.
        String[] rules = {"size=198*100", "size=1979*10+9", "size=201*100", "size=2009*10+9", "size<201*100", "size>=198*100", "off=0", "off=150", "off=149",
            "times=66", "times=67", "times=65", "times=68", "stones=4", "sort=0", "unit=300", "off<=150"};
        int[] due = {1, 0, 0, 1, 300, 300, 1, 1, 2, 151, 149, 0, 0, 300, 300, 300, 300};
        for (int i = 0; i < rules.length; i++) {
            due(rules[i], told(ONE + "near " + rules[i] + ";").odds(300, 1), (long) PARTS * due[i] / 300);
        }
        due("errors are not near", told(ONE + "near 1/(off-1)<>7;").odds(300, 1), (long) PARTS * 298 / 300);
        // By halves of 301 there are 150 places: 19950 .. 20099.
        String[] halves = {"size=1995*10", "size=1994*10+9", "size=2009*10+9", "size=201*100", "size>=1995*10 and size<201*100", "times=133", "times=134"};
        int[] dueHalves = {1, 0, 1, 0, 150, 76, 74};
        for (int i = 0; i < halves.length; i++) {
            YardRings x = told(ONE + "near " + halves[i] + ";");
            x.mode(0, true);
            due(halves[i] + " by halves", x.odds(301, 1), (long) PARTS * dueHalves[i] / 150);
        }
        YardRings y = told(ONE);
        y.mode(0, true);
        due("by halves of 101: off 0 .. 12 of 50", y.odds(101, 1), PARTS / 50 * 25);
        due("by halves of 100", y.odds(100, 1), PARTS / 50 * 25);
    }

    private static void oddsOfSoMany() {
        says("ODDS that so many RINGS (0 .. those with a FIT) are NEAR at least by a UNIT; NONE: no such ones.");
        due("no rings", new YardRings().odds(100, 0), PARTS);
        due("no rings, one", new YardRings().odds(100, 1), -1);
        YardRings x = told(RING + SQUARE + ";ring b l stone 1 1 stone 2 2;ring c l" + SQUARE + ";near 1;");
        due("none", x.odds(100, 0), PARTS);
        due("two, as many as have a fit", x.odds(100, 2), PARTS);
        for (int many : new int[] {3, 4, 9, MAX, -1, NO}) {
            due("so many: " + many, x.odds(100, many), -1);
        }
        for (int unit : NO_UNITS) {
            due("unit " + unit, x.odds(unit, 0), -1);
        }
        due("the greatest unit", x.odds(9999, 2), PARTS);
        x.gone(0, 0, true);
        x.gone(0, 1, true);
        due("two, when one has a fit", x.odds(100, 2), -1);
        due("eight", told(eight(3, 3) + "near 1;").odds(100, 8), PARTS);
        due("nine", told(eight(3, 3) + "near 1;").odds(100, 9), -1);
    }

    // ---- any

    private static void numbersCut() {
        says("numbers are the last one (at first the seed, 0 .. 2147483647) times 1103515245 and 12345, without what is above 31 bits, by 65536");
        YardRings x = told(ONE);
        // By 2000 a size is whole if the number modulo 19999 less 9999 is so many times 2000. Seeds whose first number
        // just is 9999, 1999 or 21998: from the first to the last of the 65536 that are cut to it, and those beside.
        int[][] seeds = {{711108227, 1}, {655211294, 1}, {1000913694, 0}, {365405827, 0}, {371369603, 1}, {315472670, 1}, {661175070, 0}, {25667203, 0},
            {1566418563, 1}, {1510521630, 1}, {1856224030, 0}, {1220716163, 0}};
        for (int[] seed : seeds) {
            due("seed " + seed[0], x.any(2000, 2000, 1, 9999, seed[0], 1), seed[1]);
        }
        due("the greatest number, 32767, by a sway of 8191: modulo 16383 it is 1", x.any(2000, 2000, 1, 8191, 230538014, 1), 0);
        due("modulo 1 it is 0", x.any(2000, 2000, 1, 0, 230538014, 1), 1);
        due("a number of 0 less 2000", x.any(2000, 2000, 1, 2000, 2088216195, 1), 1);
        due("a number of 0 less 2001", x.any(2000, 2000, 1, 2001, 2088216195, 1), 0);
        due("two numbers in a row", x.any(2000, 2000, 1, 9999, 1263620, 2), 2);
        due("seed 0: 0, 21468, 9988, 22117, modulo 4001 less 2000", x.any(2000, 2000, 1, 2000, 0, 4), 1);
        due("the greatest seed: 15929 modulo 15929 is 0, less 7964", x.any(7964, 7964, 1, 7964, MAX, 1), drawn(new int[] {20000}, 7964, 7964, 1, 7964, MAX, 1));
    }

    /** How many draws are as few at least, worked out as plainly as the document tells it. */
    private static int drawn(int[] sizes, int a, int b, int c, int sway, long seed, int draws) {
        long least = leastLumps(sizes, a, b, c);
        long last = seed;
        int many = 0;
        for (int draw = 0; draw < draws; draw++) {
            int[] other = new int[sizes.length];
            for (int i = 0; i < sizes.length; i++) {
                last = (last * 1103515245L + 12345L) % (1L << 31);
                other[i] = (int) Math.max(0, sizes[i] + last / 65536 % (2L * sway + 1) - sway);
            }
            many += leastLumps(other, a, b, c) <= least ? 1 : 0;
        }
        return many;
    }

    private static long leastLumps(int[] sizes, int a, int b, int c) {
        long least = Long.MAX_VALUE;
        for (int unit = a; unit <= b; unit += c) {
            long sum = 0;
            for (int size : sizes) {
                int rest = size % unit;
                sum += 4000L * Math.min(rest, unit - rest) / unit;
            }
            least = Math.min(least, sum);
        }
        return least;
    }

    private static void drawsOfManyRings() {
        says("In a draw each RING with a FIT has a SIZE of its own and a number modulo 2 SWAY and 1, less SWAY (0 .. 9999)");
        YardRings x = told(RING + ring(17) + ";ring b l stone 1 1 stone 2 2;ring c l" + ring(23) + ";ring d l" + ring(5) + ";grid 0 1;");
        int[] sizes = {3400, 4600, 1000};
        for (int i = 0; i < 40; i++) {
            int seed = i == 0 ? 0 : i == 1 ? MAX : 77777777 / i;
            int sway = i == 2 ? 9999 : i == 3 ? 0 : 40 * i;
            int draws = i == 4 ? 1 : 50;
            due("draws by seed " + seed, x.any(700, 1690, 10, sway, seed, draws), drawn(sizes, 700, 1690, 10, sway, seed, draws));
        }
        StringBuilder eight = new StringBuilder("land l;grid 0 1;");
        int[] eightSizes = new int[8];
        for (int i = 0; i < 8; i++) {
            eight.append("ring ").append((char) ('a' + i)).append(" l").append(ring(7 + 5 * i)).append(";");
            eightSizes[i] = 200 * (7 + 5 * i);
        }
        YardRings y = told(eight.toString());
        for (int sway = 100; sway <= 9999; sway *= 3) {
            due("eight rings by a sway of " + sway, y.any(700, 1690, 10, sway, 3, 50), drawn(eightSizes, 700, 1690, 10, sway, 3, 50));
        }
        due("what was drawn before stays behind", x.any(1000, 1000, 1, 0, 5, 50), 50);
        due("no rings", new YardRings().any(700, 1690, 10, 9999, 1, 50), 50);
    }

    private static void sizesBelowNothing() {
        says("0: SIZES below 0 count as 0");
        YardRings x = told(RING + times(" stone 0 0", 3) + ";ring b l" + ring(1) + ";ring c l stone 0 0 stone 1 0 stone 2 0;grid 0 1;");
        int third = x.best(2, 2);
        int[] sizes = {0, 200, third};
        for (int i = 0; i < 60; i++) {
            due("by seed " + i, x.any(100, 130, 10, 300 + 20 * i, i, 50), drawn(sizes, 100, 130, 10, 300 + 20 * i, i, 50));
        }
        // A number of 0, less the sway, is below 0: a size of 0 is whole, one of -1 isn't.
        YardRings y = told(RING + times(" stone 0 0", 3) + ";grid 0 1;");
        due("1 below 0", y.any(9999, 9999, 1, 1, 2088216195, 1), 1);
        due("9999 below 0", y.any(5000, 5000, 1, 9999, 2088216195, 1), 1);
    }

    private static void asFewAtLeast() {
        says("how many draws have a BEST UNIT with LUMPS as few at least as the RINGS have by theirs");
        YardRings x = told(ONE);
        due("as few", x.any(3000, 3000, 1, 0, 1, 50), 50);
        // 20000 by 3000 is off 1000, 1333: a number of 0 less 1 makes it 999, 1332; less 1999 it is 1001, 1334.
        due("fewer: off 999", x.any(3000, 3000, 1, 1, 2088216195, 1), drawn(new int[] {20000}, 3000, 3000, 1, 1, 2088216195, 1));
        due("fewer", x.any(3000, 3000, 1, 2000, 2088216195, 1), 1);
        due("more", x.any(3000, 3000, 1, 999, 2088216195, 1), drawn(new int[] {20000}, 3000, 3000, 1, 999, 2088216195, 1));
        due("as few by another unit", x.any(3000, 4000, 1000, 1000, 2088216195, 1), drawn(new int[] {20000}, 3000, 4000, 1000, 1000, 2088216195, 1));
    }

    private static void noSuchDraws() {
        says("ANY, of 1 .. 50 draws; NONE: no such ones (UNITS as in unit(), 100 at most)");
        YardRings x = told(ONE);
        due("one draw", x.any(100, 100, 1, 0, 0, 1), 1);
        due("fifty draws", x.any(100, 100, 1, 0, 0, 50), 50);
        for (int draws : new int[] {0, 51, -1, NO, MAX}) {
            due("draws " + draws, x.any(100, 100, 1, 0, 0, draws), -1);
        }
        for (int seed : new int[] {-1, NO}) {
            due("seed " + seed, x.any(100, 100, 1, 0, seed, 1), -1);
        }
        for (int sway : new int[] {-1, 10000, NO, MAX}) {
            due("sway " + sway, x.any(100, 100, 1, sway, 0, 1), -1);
        }
        yes("the greatest sway and seed", x.any(100, 100, 1, 9999, MAX, 50) >= 0);
    }

    // ---- chosen

    private static void chosenOfSeveral() {
        says("CHOSEN by a UNIT: of each RING of those AS WELL the one with least OFF, of several the first: LUMPS of these, and how many aren't BEST");
        String oval = RING + " stone 3 0 stone -3 0 stone 0 4 stone 0 -4;grid 0 1;";
        // Sizes: round 700, flattened 750, eggs 650; flattened east is best, round is 50 more amiss. By 145 700 and 750 are off 25.
        due("round comes first", told(oval + "slack 50;").chosen(145, 1), 1);
        due("its lumps", told(oval + "slack 50;").chosen(145, 0), 4000 * 25 / 145);
        due("round isn't as well", told(oval + "slack 49;").chosen(145, 1), 0);
        due("the best one's lumps", told(oval + "slack 49;").chosen(145, 0), 4000 * 25 / 145);
        due("an egg is whole by 650", told(oval + "slack 0;").chosen(650, 0), 0);
        due("it isn't best", told(oval + "slack 0;").chosen(650, 1), 1);
        YardRings x = told(RING + SQUARE + ";ring b l" + ring(10) + ";ring c l stone 1 1 stone 2 2;ring d l" + ring(10) + ";grid 0 1;slack 450;");
        // The small ones are as well flattened or as eggs, 450 amiss, of sizes 2150 and 1850; the great one is round alone.
        due("how many aren't best by 2000", x.chosen(2000, 1), 0);
        due("lumps by 2000", x.chosen(2000, 0), 0);
        int egg = 1850;
        due("an egg's size", x.fit(1, 2, 0, 0), egg);
        due("by an egg's size both small ones", x.chosen(egg, 1), 2);
        int rest = 20000 % egg;
        due("lumps of the great one alone", x.chosen(egg, 0), 4000 * Math.min(rest, egg - rest) / egg);
        x.mode(0, true);
        due("by halves of twice that", x.chosen(2 * egg, 1), 2);
        YardRings y = told(ONE);
        due("lumps", y.lumps(3000), 1333);
        due("what was asked before doesn't count", y.chosen(3000, 0), 1333);
        due("no rings", new YardRings().chosen(100, 0), 0);
        due("no rings", new YardRings().chosen(100, 1), 0);
    }

    private static void noSuchChosen() {
        says("CHOSEN, what 0: LUMPS, 1: how many aren't BEST. NONE: no such ones.");
        YardRings x = told(ONE);
        for (int what : new int[] {-1, 2, NO, MAX}) {
            due("what " + what, x.chosen(100, what), -1);
        }
    }

    // ---- ways and bins

    private static void binsCut() {
        says("BIN of a RING: 12 times OFF by the UNIT (the half), cut, 5 at most");
        for (int k = 0; k <= 6; k++) {
            String text = RING + (k == 0 ? times(" stone 0 0", 3) : ring(k)) + ";grid 0 1;way w 1 1 2 3 4 5 6;way v 1 1 1 1 1 1 1;";
            YardRings x = told(text);
            // A size of 200 k: by 2400 just k of twelve, by 2401 a little less.
            int at = Math.min(k, 5);
            int below = Math.max(k - 1, 0);
            for (int bin = 0; bin < 6; bin++) {
                due("bin " + bin + " by 2400", x.hump(2400, bin), bin == at ? 1 : 0);
                due("bin " + bin + " by 2401", x.hump(2401, bin), bin == below ? 1 : 0);
            }
            due("the bin's number tells", x.tells(0, 2400, 0) * (at + 2) , (at + 1) * x.tells(0, 2400, 1));
            due("the bin's number tells", x.tells(0, 2401, 0) * (below + 2), (below + 1) * x.tells(0, 2401, 1));
            x.mode(0, true);
            for (int bin = 0; bin < 6; bin++) {
                due("bin " + bin + " by halves of 4801", x.hump(4801, bin), bin == at ? 1 : 0);
                due("bin " + bin + " by halves of 4802", x.hump(4802, bin), bin == below ? 1 : 0);
            }
        }
        YardRings x = told(ONE);
        for (int bin : new int[] {-1, 6, NO, MAX}) {
            due("no such bin", x.hump(100, bin), -1);
        }
        due("no rings", new YardRings().hump(100, 0), 0);
        due("no fit", told(RING + " stone 1 1 stone 1 1;").hump(100, 0), 0);
    }

    private static void tellsInLeastTerms() {
        says("TELLS of a WAY: its WEIGHT times, for each RING with a FIT, its BIN's number; by the sum of all WAYS', in least terms");
        YardRings x = told("way a 6 1 1 1 1 1 1;way b 9 1 1 1 1 1 1;way c 3 1 1 1 1 1 1;");
        int[][] due = {{1, 3}, {1, 2}, {1, 6}};
        for (int way = 0; way < 3; way++) {
            due("without rings, above", x.tells(way, 100, 0), due[way][0]);
            due("without rings, below", x.tells(way, 100, 1), due[way][1]);
        }
        due("one way alone", told("way a 99 0 0 0 0 0 0;").tells(0, 100, 0), 1);
        due("one way alone", told("way a 99 0 0 0 0 0 0;").tells(0, 100, 1), 1);
        YardRings y = told(eight(3, 3) + "way a 99 99 0 0 0 0 0;way b 99 99 0 0 0 0 0;way c 99 99 0 0 0 0 0;way d 99 99 0 0 0 0 0;way e 98 99 0 0 0 0 0;");
        // Five times 99 to the 9th is beyond ints, not beyond longs.
        due("99 of 494", y.tells(0, 100, 0), 99);
        due("below", y.tells(0, 100, 1), 494);
        due("98 of 494", y.tells(4, 100, 0), 49);
        due("below", y.tells(4, 100, 1), 247);
        YardRings z = told(eight(3, 3) + "way a 99 99 0 0 0 0 0;way b 99 99 0 0 0 0 0;way c 99 99 0 0 0 0 0;way d 99 99 0 0 0 0 0;way e 1 1 0 0 0 0 0;");
        long power = 99L * 99 * 99 * 99 * 99 * 99 * 99 * 99 * 99;
        due("a great number above", z.tells(3, 100, 0), power);
        due("a great number below", z.tells(3, 100, 1), 4 * power + 1);
        due("one", z.tells(4, 100, 0), 1);
        due("below", z.tells(4, 100, 1), 4 * power + 1);
    }

    private static void tellsNothing() {
        says("in least terms (0 by 0, if that is 0)");
        YardRings x = told(ONE + "way a 5 0 1 1 1 1 1;way b 7 0 1 1 1 1 1;");
        for (int way = 0; way < 2; way++) {
            due("0", x.tells(way, 4000, 0), 0);
            due("by 0", x.tells(way, 4000, 1), 0);
        }
        YardRings y = told(ONE + "way a 5 0 1 1 1 1 1;way b 7 1 1 1 1 1 1;");
        due("0 of 7", y.tells(0, 4000, 0), 0);
        due("by 1", y.tells(0, 4000, 1), 1);
        due("7 of 7", y.tells(1, 4000, 0), 1);
        due("by 1", y.tells(1, 4000, 1), 1);
        for (int way : new int[] {-1, 2, 5, NO, MAX}) {
            due("way " + way, y.tells(way, 4000, 0), -1);
        }
        for (int what : new int[] {-1, 2, NO, MAX}) {
            due("what " + what, y.tells(0, 4000, what), -1);
        }
        due("no ways", told(ONE).tells(0, 4000, 0), -1);
    }

    private static void noSuchUnit() {
        says("a UNIT (hundredths, 100 .. 9999); NONE: no such UNIT");
        YardRings x = told(ONE + "way w 1 1 1 1 1 1 1;said k a 5;");
        String before = all(x);
        for (int unit : NO_UNITS) {
            due("near " + unit, x.near(unit), -1);
            due("lumps " + unit, x.lumps(unit), -1);
            due("odds " + unit, x.odds(unit, 0), -1);
            due("chosen " + unit, x.chosen(unit, 0), -1);
            due("chosen " + unit, x.chosen(unit, 1), -1);
            due("tells " + unit, x.tells(0, unit, 0), -1);
            due("hump " + unit, x.hump(unit, 0), -1);
            due("wander " + unit, x.wander(unit, -1), -2);
            due("sort " + unit, x.sort(0, unit, 0), -1);
            due("sort " + unit, x.sort(0, unit, 1), -1);
            due("blind " + unit, x.blind(unit, 0), -1);
            due("blind " + unit, x.blind(unit, 3), -1);
        }
        for (int unit : new int[] {100, 9999}) {
            due("near " + unit, x.near(unit), 1);
            due("lumps " + unit, x.lumps(unit), unit == 100 ? 0 : 4000 * 2 / 9999);
            due("chosen " + unit, x.chosen(unit, 1), 0);
            due("tells " + unit, x.tells(0, unit, 0), 1);
            due("hump " + unit, x.hump(unit, 0), 1);
            due("wander " + unit, x.wander(unit, -1), unit == 100 ? 0 : 1);
            due("sort " + unit, x.sort(0, unit, 1), 1);
            due("blind " + unit, x.blind(unit, 3), 1);
        }
        same("after that", all(x), before);
    }
}
