/** The boundary cases of promises 6 to 16 and of NOTES, KNOWN, FIT, BEST, AS WELL and SPAN: one test for each sentence. */
public final class FitEdgesTest extends Checks {
    private static final String RING = "land l;ring a l";
    /* Their middle is 0, 0; by grid 0 round is 200 amiss, flattened east or west and egg north or south 150, the others 300. */
    private static final String OVAL = " stone 3 0 stone -3 0 stone 0 4 stone 0 -4";

    public static void main(String[] args) {
        lookAtStones();
        lookAtNoSuchOnes();
        aboutRings();
        tapeWithinBounds();
        tapeOfNoSuchOnes();
        goneOrThere();
        strikeOfNoSuchNote();
        sixtyNotes();
        knownByN();
        knownOfNoSuchN();
        strikesOfStrikes();
        theLastThatTells();
        modesTaken();
        whoStands();
        innerSides();
        middlesCutDownwards();
        rootsCut();
        threeStones();
        turnsCutTowardsNothing();
        turnsPointSomewhere();
        leastMisfitOfTheGrid();
        theLeastIThenK();
        radiusAndMisfit();
        noSuchFit();
        bestOfSeveral();
        noSuchBest();
        asWell();
        spans();
        noSuchSpan();
        fitsAnew();
        end();
    }

    // ---- look and about

    private static void lookAtStones() {
        says("Of a RING's STONE as KNOWN, what 0 x, 1 y, 2, 3 LEAN, 4 set up AGAIN (1, 0), 5 GONE (1, 0)");
        StringBuilder text = new StringBuilder("land l;");
        for (char name = 'a'; name < 'i'; name++) {
            text.append("ring ").append(name).append(" l").append(name == 'h' ? times(" stone 1 2", 9) + " stone 3 4 lean 5 6 again gone" : "").append(";");
        }
        YardRings x = told(text.toString());
        int[] last = {3, 4, 5, 6, 1, 1};
        int[] first = {1, 2, 0, 0, 0, 0};
        for (int what = 0; what < 6; what++) {
            due("the last stone of the last ring, " + what, looked(x, 7, 9, what), last[what]);
            due("its first stone, " + what, looked(x, 7, 0, what), first[what]);
        }
        x.tape(7, 9, -5, -6);
        x.gone(7, 9, false);
        int[] since = {-5, -6, 5, 6, 1, 0};
        for (int what = 0; what < 6; what++) {
            due("as known since, " + what, looked(x, 7, 9, what), since[what]);
        }
        x.known(1);
        due("gone as known by one note", looked(x, 7, 9, 5), 1);
        x.known(0);
        due("x as known by none", looked(x, 7, 9, 0), 3);
    }

    private static void lookAtNoSuchOnes() {
        says("IndexOutOfBoundsException: no such RING, STONE. NoSuchElementException: no such what.");
        YardRings x = told(RING + " stone 1 2 stone 3 4;ring b l;");
        String before = all(x);
        for (int ring : new int[] {-1, 2, 8, NO, MAX}) {
            due("ring " + ring, looked(x, ring, 0, 0), NO_INDEX);
        }
        for (int stone : new int[] {-1, 2, 10, NO, MAX}) {
            due("stone " + stone, looked(x, 0, stone, 0), NO_INDEX);
        }
        due("a ring without stones", looked(x, 1, 0, 0), NO_INDEX);
        for (int what : new int[] {-1, 6, NO, MAX}) {
            due("what " + what, looked(x, 0, 0, what), NO_ELEMENT);
            due("no such stone, what " + what, looked(x, 0, 2, what), NO_INDEX);
        }
        same("after that", all(x), before);
        due("no text", looked(new YardRings(), 0, 0, 0), NO_INDEX);
    }

    private static void aboutRings() {
        says("Of a RING, what 0 LAND, 1 STONES, 2 those that STAND (by MODE). NONE: no such ones.");
        YardRings x = told("land l;land m;ring a m stone 1 1 stone 2 2 again stone 3 3 gone stone 4 4 again gone;ring b l;");
        due("land", x.about(0, 0), 1);
        due("stones", x.about(0, 1), 4);
        int[] stand = {2, 1, 2, 1};
        for (int mode = 0; mode < 4; mode++) {
            x.mode(mode, false);
            due("those that stand by mode " + mode, x.about(0, 2), stand[mode]);
        }
        for (int what = 0; what < 3; what++) {
            due("a ring without stones, " + what, x.about(1, what), 0);
        }
        for (int ring : new int[] {-1, 2, NO, MAX}) {
            due("no such ring", x.about(ring, 0), -1);
        }
        for (int what : new int[] {-1, 3, NO, MAX}) {
            due("no such what", x.about(0, what), -1);
        }
    }

    // ---- notes

    private static void tapeWithinBounds() {
        says("A STONE taped anew: its NOTE's number (x, y; its LEAN stays)");
        YardRings x = told(RING + " stone 1 2 lean 3 4 again gone stone 5 6;");
        int[][] places = {{-999, 999}, {999, -999}, {-999, -999}, {999, 999}, {0, 0}};
        for (int i = 0; i < places.length; i++) {
            due("tape", x.tape(0, 0, places[i][0], places[i][1]), i);
            due("x", looked(x, 0, 0, 0), places[i][0]);
            due("y", looked(x, 0, 0, 1), places[i][1]);
        }
        int[] stays = {3, 4, 1, 1};
        for (int what = 2; what < 6; what++) {
            due("what stays, " + what, looked(x, 0, 0, what), stays[what - 2]);
        }
        due("the other stone stays", looked(x, 0, 1, 0), 5);
    }

    private static void tapeOfNoSuchOnes() {
        says("its NOTE's number; NONE: no such ones, or there are 60");
        YardRings x = told(RING + " stone 1 2 stone 3 4;ring b l;");
        x.tape(0, 1, 5, 6);
        String before = all(x);
        for (int none : new int[] {-1000, 1000, NO, MAX}) {
            due("x " + none, x.tape(0, 0, none, 0), -1);
            due("y " + none, x.tape(0, 0, 0, none), -1);
        }
        for (int none : new int[] {-1, 2, 10, NO, MAX}) {
            due("ring " + none, x.tape(none, 0, 0, 0), -1);
            due("stone " + none, x.tape(0, none, 0, 0), -1);
            due("gone ring " + none, x.gone(none, 0, true), -1);
            due("gone stone " + none, x.gone(0, none, true), -1);
        }
        due("a ring without stones", x.tape(1, 0, 0, 0), -1);
        due("gone of a ring without stones", x.gone(1, 0, true), -1);
        same("after that", all(x), before);
        due("the next note", x.tape(0, 0, 0, 0), 1);
    }

    private static void goneOrThere() {
        says("A STONE is GONE, or there: its NOTE's number");
        YardRings x = told(RING + " stone 1 2 gone stone 3 4;");
        due("there", x.gone(0, 0, false), 0);
        due("is there", looked(x, 0, 0, 5), 0);
        due("gone", x.gone(0, 1, true), 1);
        due("is gone", looked(x, 0, 1, 5), 1);
        due("gone again", x.gone(0, 1, true), 2);
        due("is gone", looked(x, 0, 1, 5), 1);
        due("its place stays", looked(x, 0, 1, 0), 3);
        due("one stands", x.about(0, 2), 1);
    }

    private static void strikeOfNoSuchNote() {
        says("A STRIKE: its NOTE's number; NONE: no such NOTE, or there are 60.");
        YardRings x = told(RING + " stone 1 2;");
        due("none yet", x.strike(0), -1);
        x.tape(0, 0, 3, 4);
        x.tape(0, 0, 5, 6);
        String before = all(x);
        for (int note : new int[] {-1, 2, 3, 60, NO, MAX}) {
            due("strike(" + note + ")", x.strike(note), -1);
        }
        same("after that", all(x), before);
        due("the last note", x.strike(1), 2);
        due("the first note", x.strike(0), 3);
        due("as the text has it", looked(x, 0, 0, 0), 1);
        x.known(0);
        due("a note that isn't known may be struck", x.strike(3), 4);
    }

    private static void sixtyNotes() {
        says("NOTES, at most 60, numbered from 0 on");
        for (int last = 0; last < 3; last++) {
            YardRings x = told(RING + " stone 1 2 stone 3 4;");
            for (int i = 0; i < 59; i++) {
                due("note " + i, x.tape(0, 0, i, -i), i);
            }
            due("the sixtieth", last == 0 ? x.tape(0, 0, 99, 99) : last == 1 ? x.gone(0, 0, true) : x.strike(58), 59);
            due("x by it", looked(x, 0, 0, 0), last == 0 ? 99 : last == 1 ? 58 : 57);
            due("gone by it", looked(x, 0, 0, 5), last == 1 ? 1 : 0);
            String before = all(x);
            due("a 61st tape", x.tape(0, 1, 0, 0), -1);
            due("a 61st gone", x.gone(0, 1, true), -1);
            due("a 61st strike", x.strike(0), -1);
            same("after that", all(x), before);
            yes("known by sixty", x.known(60));
            no("not by 61", x.known(61));
            due("ahead by sixty", x.ahead(60, 100, 100, 1, 0), 100);
            due("not by 61", x.ahead(61, 100, 100, 1, 0), -1);
            tell(x, RING + " stone 1 2;");
            due("from 0 on by the next text", x.tape(0, 0, 0, 0), 0);
        }
    }

    private static void knownByN() {
        says("KNOWN by n NOTES from now on (-1: by all, also those to come): true");
        YardRings x = told(RING + " stone 0 0;");
        due("all at first: none", x.count(6), 0);
        x.tape(0, 0, 1, 1);
        due("all at first: also those to come", looked(x, 0, 0, 0), 1);
        yes("known(1)", x.known(1));
        x.tape(0, 0, 2, 2);
        due("not those to come", looked(x, 0, 0, 0), 1);
        due("by one", x.count(6), 1);
        yes("known(0)", x.known(0));
        due("by none", looked(x, 0, 0, 0), 0);
        yes("known(2)", x.known(2));
        due("by two", looked(x, 0, 0, 0), 2);
        x.tape(0, 0, 3, 3);
        due("not the third", looked(x, 0, 0, 0), 2);
        yes("known(-1)", x.known(-1));
        due("by all", looked(x, 0, 0, 0), 3);
        x.tape(0, 0, 4, 4);
        due("those to come too", looked(x, 0, 0, 0), 4);
        due("by four", x.count(6), 4);
        yes("known(3)", x.known(3));
        due("of four three", looked(x, 0, 0, 0), 3);
        tell(x, RING + " stone 0 0;");
        x.tape(0, 0, 9, 9);
        due("all known by the next text", looked(x, 0, 0, 0), 9);
    }

    private static void knownOfNoSuchN() {
        says("true; false: no such n");
        YardRings x = told(RING + " stone 0 0;");
        x.tape(0, 0, 1, 1);
        x.tape(0, 0, 2, 2);
        yes("known(1)", x.known(1));
        String before = all(x);
        for (int n : new int[] {3, 60, MAX, -2, NO}) {
            no("known(" + n + ")", x.known(n));
        }
        same("after that", all(x), before);
        yes("known(-1)", x.known(-1));
        no("known(3)", x.known(3));
        x.tape(0, 0, 3, 3);
        due("still by all", looked(x, 0, 0, 0), 3);
    }

    private static void strikesOfStrikes() {
        says("(a STRIKE may be STRUCK: then it doesn't count; asked from the last one on)");
        YardRings x = told(RING + " stone 0 0;");
        x.tape(0, 0, 1, 1);
        x.tape(0, 0, 2, 2);
        x.strike(1);
        x.strike(2);
        x.strike(3);
        x.strike(2);
        x.strike(1);
        x.strike(6);
        // 5 strikes 2 whether 4 struck 3 or not; 6 strikes 1 though 2 doesn't, until 7 strikes 6.
        int[] due = {0, 1, 2, 1, 2, 1, 2, 1, 2};
        for (int n = 0; n < due.length; n++) {
            yes("known(" + n + ")", x.known(n));
            due("x by " + n, looked(x, 0, 0, 0), due[n]);
        }
        x.known(-1);
        due("a note struck twice", x.strike(0), 8);
        x.strike(1);
        due("both are struck", looked(x, 0, 0, 0), 0);
        x.strike(0);
        x.strike(8);
        due("one of its two strikes is struck", looked(x, 0, 0, 0), 0);
        x.strike(10);
        due("both of them", looked(x, 0, 0, 0), 1);
    }

    private static void theLastThatTells() {
        says("in order; the last that tells of a thing counts");
        YardRings x = told(RING + " stone 0 0 stone 7 7;");
        x.tape(0, 0, 1, 1);
        x.gone(0, 0, true);
        x.tape(0, 0, 2, 2);
        x.tape(0, 1, 8, 8);
        due("the last place", looked(x, 0, 0, 0), 2);
        due("a place tells nothing of gone", looked(x, 0, 0, 5), 1);
        x.gone(0, 0, false);
        due("gone tells nothing of a place", looked(x, 0, 0, 0), 2);
        due("there", looked(x, 0, 0, 5), 0);
        x.strike(4);
        due("gone by the one before", looked(x, 0, 0, 5), 1);
        x.strike(2);
        due("the place of the one before", looked(x, 0, 0, 0), 1);
        due("the other stone", looked(x, 0, 1, 0), 8);
    }

    // ---- modes, middles, roots

    private static void modesTaken() {
        says("MODE (0 .. 3) and HALVES: true; false: no such MODE.");
        YardRings x = told(RING + SQUARE + ";");
        for (int mode = 0; mode < 4; mode++) {
            yes("mode(" + mode + ", true)", x.mode(mode, true));
            due("mode", x.count(11), mode);
            due("halves", x.count(12), 1);
            yes("mode(" + mode + ", false)", x.mode(mode, false));
            due("no halves", x.count(12), 0);
        }
        x.mode(2, true);
        String before = all(x);
        for (int mode : new int[] {-1, 4, 5, NO, MAX}) {
            no("mode(" + mode + ", false)", x.mode(mode, false));
        }
        same("after that", all(x), before);
    }

    private static void whoStands() {
        says("STONES that STAND: those not GONE (with a MODE: bit 0: not those set up AGAIN either)");
        YardRings x = told(RING + " stone 1 0 stone -1 0 again stone 0 1 again stone 0 -1 gone;");
        due("three", x.about(0, 2), 3);
        due("a fit", x.count(13), 1);
        x.mode(1, false);
        due("one", x.about(0, 2), 1);
        due("no fit", x.count(13), 0);
        due("no size", x.fit(0, 0, 0, 0), NO);
        x.mode(2, false);
        due("three", x.about(0, 2), 3);
        x.mode(3, false);
        due("one", x.about(0, 2), 1);
        x.mode(0, false);
        x.gone(0, 0, true);
        due("two", x.about(0, 2), 2);
        due("no fit", x.fit(0, 0, 0, 0), NO);
        x.gone(0, 3, false);
        due("three others", x.about(0, 2), 3);
        yes("a fit", x.fit(0, 0, 0, 0) != NO);
    }

    private static void innerSides() {
        says("bit 1: by their inner sides: x, y and LEAN");
        YardRings x = told(RING + " stone 10 1 lean -2 0 stone -10 1 lean 4 0 stone 0 11 lean 0 -6 stone 0 -9 lean 0 8;grid 0 1;");
        due("by the middles", x.fit(0, 0, 0, 0), 2000);
        x.mode(2, false);
        // They are at 8, 1; -6, 1; 0, 5; 0, -1: the middle is 0, 1.
        due("x of the middle", x.fit(0, 0, 0, 2), 0);
        due("y of the middle", x.fit(0, 0, 0, 3), 1);
        due("size", x.fit(0, 0, 0, 0), 2 * ((800 + 600 + 400 + 200) / 4));
        x.tape(0, 0, 12, 1);
        // Taped anew it is at 10, 1.
        due("with a note", x.fit(0, 0, 0, 2), 1);
        x.mode(1, false);
        due("by the middles again", x.fit(0, 0, 0, 2), 0);
        YardRings far = told(RING + " stone 999 999 lean 99 99 stone -999 -999 lean -99 -99 stone -999 999 lean -99 99 "
            + "stone 999 -999 lean 99 -99;grid 0 1;");
        far.mode(2, false);
        due("the farthest: the root of 24112080000", far.fit(0, 0, 0, 0), 310560);
        due("flattened: two of 183000, two of 155280", far.fit(0, 1, 0, 0), 338280);
        due("its misfit", far.fit(0, 1, 0, 1), 55440);
    }

    private static void middlesCutDownwards() {
        says("MIDDLE: the means of x and of y, cut downwards");
        int[][] rows = {{-1, 0, 0, -1}, {-1, -1, -1, -1}, {-1, -1, -2, -2}, {-1, -1, 0, -1}, {2, 0, 0, 0}, {1, 1, 1, 1}, {1, 1, 2, 1}, {2, 2, 1, 1},
            {0, 0, 0, 0}, {-999, -999, -998, -999}, {999, 999, 998, 998}, {-2, 1, 0, -1}};
        for (int[] row : rows) {
            YardRings x = told(RING + " stone " + row[0] + " 5 stone " + row[1] + " 5 stone " + row[2] + " 5;ring b l stone 5 " + row[0]
                + " stone 5 " + row[1] + " stone 5 " + row[2] + ";grid 0 1;");
            due("mean of x", x.fit(0, 0, 0, 2), row[3]);
            due("y", x.fit(0, 0, 0, 3), 5);
            due("x", x.fit(1, 0, 0, 2), 5);
            due("mean of y", x.fit(1, 0, 0, 3), row[3]);
        }
    }

    private static void rootsCut() {
        says("ROOT of a whole number: the greatest one whose square isn't above it; AWAY: the ROOT of 10000 times (a a and b b)");
        // Two stones at a, b and at -a, -b and one at the middle: a radius is two thirds of AWAY.
        int[][] rows = {{1, 1, 141}, {1, 2, 223}, {2, 3, 360}, {3, 4, 500}, {5, 12, 1300}, {1, 0, 100}, {0, 0, 0}, {999, 999, 141279}, {999, 0, 99900},
            {999, 1, 99900}, {998, 999, 141209}, {7, 7, 989}, {707, 707, 99984}};
        for (int[] row : rows) {
            yes("the square of " + row[2] + " isn't above it", (long) row[2] * row[2] <= 10000L * (row[0] * row[0] + row[1] * row[1]));
            yes("the next one's is", (row[2] + 1L) * (row[2] + 1L) > 10000L * (row[0] * row[0] + row[1] * row[1]));
            YardRings x = told(RING + " stone " + row[0] + " " + row[1] + " stone -" + row[0] + " -" + row[1] + " stone 0 0;grid 0 1;");
            int radius = 2 * row[2] / 3;
            due("size", x.fit(0, 0, 0, 0), 2 * radius);
            due("misfit", x.fit(0, 0, 0, 1), 2 * (row[2] - radius) + radius);
        }
    }

    // ---- fits

    private static void threeStones() {
        says("a MODE, at least three STONES; Integer.MIN_VALUE: no such ones, fewer than three STONES");
        for (int stones = 0; stones <= 10; stones++) {
            YardRings x = told(RING + times(" stone 3 4", stones) + ";grid 0 1;");
            due("size of " + stones, x.fit(0, 0, 0, 0), stones < 3 ? NO : 0);
            due("misfit of " + stones, x.fit(0, 2, 3, 1), stones < 3 ? NO : 0);
            due("x of " + stones, x.fit(0, 1, 1, 2), stones < 3 ? NO : 3);
            due("y of " + stones, x.fit(0, 0, 0, 3), stones < 3 ? NO : 4);
            due("best of " + stones, x.best(0, 0), stones < 3 ? -1 : 0);
            due("well of " + stones, x.well(0), stones < 3 ? -1 : 0xff1);
            due("span of " + stones, x.span(0, 0), stones < 3 ? -1 : 0);
            due("next of " + stones, x.next(), stones < 3 ? -1 : 0);
            due("fits of " + stones, x.count(13), stones < 3 ? 0 : 1);
        }
    }

    private static void turnsCutTowardsNothing() {
        says("times 4 by 3 (SORT 1) or times 3 by 4 (SORT 2), cut towards 0");
        // A stone at a, one at -a along the turn, one at the middle.
        int[][] rows = {{1, 1, 0}, {2, 2, 1}, {3, 4, 2}, {4, 5, 3}, {5, 6, 3}, {7, 9, 5}, {998, 1330, 748}, {999, 1332, 749}};
        for (int[] row : rows) {
            String one = " stone " + row[0] + " 0 stone -" + row[0] + " 0 stone 0 0";
            String other = " stone 0 " + row[0] + " stone 0 -" + row[0] + " stone 0 0";
            YardRings x = told(RING + one + ";ring b l" + other + ";grid 0 1;");
            for (int turn = 0; turn < 4; turn++) {
                for (int sort = 1; sort < 3; sort++) {
                    due("sort " + sort + " turn " + turn + " of " + row[0], x.fit(turn % 2, sort, turn, 0), 2 * ((100 * row[0] + 100 * row[sort]) / 3));
                    due("the other way", x.fit(1 - turn % 2, sort, turn, 0), 2 * (200 * row[0] / 3));
                }
            }
        }
    }

    private static void turnsPointSomewhere() {
        says("the one along TURN, if it points there (east a above 0, north b above 0, west a below 0, south b below 0)");
        YardRings x = told(RING + " stone 6 0 stone -9 0 stone 0 12 stone 0 -15 stone 3 3;grid 0 1;");
        int[][] sizes = {{1848}, {1960, 2040, 1968, 2048}, {1744, 1704, 1728, 1688}};
        int[][] misfits = {{1700}, {1480, 2120, 1892, 2300}, {1968, 1488, 1940, 1332}};
        for (int sort = 0; sort < 3; sort++) {
            for (int turn = 0; turn < sizes[sort].length; turn++) {
                due("size of sort " + sort + " turn " + turn, x.fit(0, sort, turn, 0), sizes[sort][turn]);
                due("misfit of sort " + sort + " turn " + turn, x.fit(0, sort, turn, 1), misfits[sort][turn]);
            }
        }
        due("the best sort", x.best(0, 0), 2);
        due("the best turn", x.best(0, 1), 3);
    }

    private static void leastMisfitOfTheGrid() {
        says("Of all middles MIDDLE and (i H, k H), i and k each -G .. G, that with the least MISFIT");
        // As far from two places as from a third one: all middles of a line, which the grid's last row just reaches.
        due("east", told(RING + " stone -500 0 stone -500 0 stone 580 0;grid 9 20;").fit(0, 0, 0, 2), 40);
        due("west", told(RING + " stone 500 0 stone 500 0 stone -580 0;grid 9 20;").fit(0, 0, 0, 2), -40);
        due("north", told(RING + " stone 0 -500 stone 0 -500 stone 0 580;grid 9 20;").fit(0, 0, 0, 3), 40);
        due("south", told(RING + " stone 0 500 stone 0 500 stone 0 -580;grid 9 20;").fit(0, 0, 0, 3), -40);
        due("without misfit", told(RING + " stone -500 0 stone -500 0 stone 580 0;grid 9 20;").fit(0, 0, 0, 1), 0);
        due("the least y", told(RING + " stone -500 0 stone -500 0 stone 580 0;grid 9 20;").fit(0, 0, 0, 3), -180);
        yes("a row less doesn't", told(RING + " stone -500 0 stone -500 0 stone 580 0;grid 8 20;").fit(0, 0, 0, 1) > 0);
        due("G 1", told(RING + " stone 0 0 stone 0 0 stone 6 0;grid 1 1;").fit(0, 0, 0, 2), 3);
        due("G 1, misfit", told(RING + " stone 0 0 stone 0 0 stone 6 0;grid 1 1;").fit(0, 0, 0, 1), 0);
        due("G 0", told(RING + " stone 0 0 stone 0 0 stone 6 0;grid 0 1;").fit(0, 0, 0, 2), 2);
        due("G 0, misfit: 200, 200, 400", told(RING + " stone 0 0 stone 0 0 stone 6 0;grid 0 1;").fit(0, 0, 0, 1), 66 + 66 + 134);
        due("H 20 goes over it", told(RING + " stone 0 0 stone 0 0 stone 6 0;grid 0 20;").fit(0, 0, 0, 2), 2);
    }

    private static void theLeastIThenK() {
        says("of several the least i, then k");
        // The middles that are as far from 0, 0 as from 2, 2: i and k are 2 together.
        YardRings x = told(RING + " stone 0 0 stone 0 0 stone 2 2;grid 3 1;");
        due("the least i", x.fit(0, 0, 0, 2), -1);
        due("its k", x.fit(0, 0, 0, 3), 3);
        YardRings y = told(RING + " stone 0 0 stone 0 0 stone 6 0;grid 3 1;");
        due("one i alone", y.fit(0, 0, 0, 2), 3);
        due("the least k", y.fit(0, 0, 0, 3), -3);
        YardRings z = told(RING + " stone 0 0 stone 0 0 stone 0 6;grid 3 1;");
        due("one k alone", z.fit(0, 0, 0, 3), 3);
        due("the least i", z.fit(0, 0, 0, 2), -3);
        YardRings w = told(RING + times(" stone 5 5", 3) + ";grid 9 20;");
        for (int turn = 0; turn < 4; turn++) {
            due("the farthest west", w.fit(0, 1, turn, 2), -175);
            due("the farthest south", w.fit(0, 2, turn, 3), -175);
        }
        due("180 and 180 away", w.fit(0, 0, 0, 0), 2 * 25455);
    }

    private static void radiusAndMisfit() {
        says("RADIUS: the mean of AWAY, cut. MISFIT: the sum of AWAY less RADIUS without sign. SIZE: twice RADIUS");
        // AWAY is 600, 900, 1200, 1500, 424: a fifth of 4624 is 924.
        YardRings x = told(RING + " stone 6 0 stone -9 0 stone 0 12 stone 0 -15 stone 3 3;grid 0 1;");
        due("size", x.fit(0, 0, 0, 0), 1848);
        due("misfit", x.fit(0, 0, 0, 1), 324 + 24 + 276 + 576 + 500);
        due("no radius", told(RING + times(" stone 1 1", 3) + ";grid 0 1;").fit(0, 0, 0, 0), 0);
    }

    private static void noSuchFit() {
        says("a TURN 0 .. 3 (of 0 always 0); Integer.MIN_VALUE: no such ones, fewer than three STONES");
        YardRings x = told(RING + SQUARE + ";ring b l" + SQUARE + ";ring c l stone 1 1 stone 2 2;");
        String before = all(x);
        for (int turn : new int[] {1, 2, 3, 4, -1, NO, MAX}) {
            due("round, turn " + turn, x.fit(0, 0, turn, 0), NO);
        }
        for (int turn : new int[] {-1, 4, NO, MAX}) {
            due("flattened, turn " + turn, x.fit(0, 1, turn, 0), NO);
            due("egg, turn " + turn, x.fit(0, 2, turn, 0), NO);
        }
        for (int sort : new int[] {-1, 3, NO, MAX}) {
            for (int turn = 0; turn < 4; turn++) {
                due("sort " + sort, x.fit(0, sort, turn, 0), NO);
            }
        }
        for (int what : new int[] {-1, 4, NO, MAX}) {
            due("what " + what, x.fit(0, 0, 0, what), NO);
        }
        for (int ring : new int[] {-1, 2, 3, 8, NO, MAX}) {
            due("ring " + ring, x.fit(ring, 0, 0, 0), NO);
        }
        yes("the last ring with one", x.fit(1, 2, 3, 3) != NO);
        same("after that", all(x), before);
    }

    private static void bestOfSeveral() {
        says("BEST of a RING in a MODE: the SORT and TURN with the least MISFIT, of several the first");
        YardRings x = told(RING + OVAL + ";ring b l" + SQUARE + ";grid 0 1;");
        due("flattened, though an egg fits as well", x.best(0, 0), 1);
        due("east, though west fits as well", x.best(0, 1), 0);
        due("size", x.best(0, 2), 750);
        due("misfit", x.best(0, 3), 150);
        due("round", x.best(1, 0), 0);
        YardRings all = told(RING + times(" stone 9 9", 3) + ";");
        due("all fit as well: round", all.best(0, 0), 0);
        due("turn 0", all.best(0, 1), 0);
        // By a mode another one is best: without the stone set up again the ring is round.
        YardRings y = told(RING + " stone 100 0 stone 0 100 stone -100 0 stone 0 -100 stone 75 0 again stone 75 0 again;grid 0 1;");
        yes("not round with them", y.best(0, 3) > 0);
        y.mode(1, false);
        due("round without them", y.best(0, 3), 0);
    }

    private static void noSuchBest() {
        says("NONE: no such ones, no FIT.");
        YardRings x = told(RING + SQUARE + ";ring b l stone 1 1 stone 2 2;");
        for (int what : new int[] {-1, 4, NO, MAX}) {
            due("what " + what, x.best(0, what), -1);
        }
        for (int ring : new int[] {-1, 1, 2, 8, NO, MAX}) {
            for (int what = 0; what < 4; what++) {
                due("ring " + ring, x.best(ring, what), -1);
            }
            due("well of ring " + ring, x.well(ring), -1);
        }
    }

    private static void asWell() {
        says("AS WELL: all of which MISFIT is SLACK above that at most");
        int[][] rows = {{0, 0xa50}, {1, 0xa50}, {49, 0xa50}, {50, 0xa51}, {149, 0xa51}, {150, 0xff1}, {9999, 0xff1}};
        for (int[] row : rows) {
            due("slack " + row[0], told(RING + OVAL + ";grid 0 1;slack " + row[0] + ";").well(0), row[1]);
        }
        due("slack 300 untold", told(RING + OVAL + ";grid 0 1;").well(0), 0xff1);
        // Round is 0 amiss, an egg 3750, flattened 4950: below the untold slack nothing but round.
        due("untold, of a great ring", told(RING + SQUARE + ";grid 0 1;").well(0), 1);
        due("the best is one of them", told(RING + SQUARE + ";grid 0 1;slack 0;").well(0), 1);
    }

    private static void spans() {
        says("SPAN: the least and the greatest SIZE of these");
        int[][] rows = {{0, 650, 750}, {49, 650, 750}, {9999, 650, 750}};
        for (int[] row : rows) {
            YardRings x = told(RING + OVAL + ";grid 0 1;slack " + row[0] + ";");
            due("least", x.span(0, 0), row[1]);
            due("greatest", x.span(0, 1), row[2]);
        }
        int[][] great = {{3749, 20000, 20000}, {3750, 18750, 20000}, {4949, 18750, 20000}, {4950, 18750, 21650}};
        for (int[] row : great) {
            YardRings x = told(RING + SQUARE + ";grid 0 1;slack " + row[0] + ";");
            due("least by slack " + row[0], x.span(0, 0), row[1]);
            due("greatest by slack " + row[0], x.span(0, 1), row[2]);
        }
    }

    private static void noSuchSpan() {
        says("SPAN, what 0: the least SIZE, 1: the greatest. NONE: no FIT, no such ones.");
        YardRings x = told(RING + SQUARE + ";ring b l stone 1 1 stone 2 2;");
        for (int what : new int[] {-1, 2, NO, MAX}) {
            due("what " + what, x.span(0, what), -1);
        }
        for (int ring : new int[] {-1, 1, 2, 8, NO, MAX}) {
            due("ring " + ring, x.span(ring, 0), -1);
            due("ring " + ring, x.span(ring, 1), -1);
        }
    }

    private static void fitsAnew() {
        says("KNOWN by n: the first n NOTES that aren't STRUCK, in order; the last that tells of a thing counts");
        YardRings x = told(RING + OVAL + ";grid 0 1;");
        due("flattened", x.best(0, 0), 1);
        x.tape(0, 0, 4, 0);
        x.tape(0, 1, -4, 0);
        due("round since", x.best(0, 0), 0);
        due("size", x.best(0, 2), 800);
        x.known(0);
        due("flattened as known before", x.best(0, 0), 1);
        x.known(1);
        due("one of two taped: flattened west", x.best(0, 1), 2);
        x.known(-1);
        due("both", x.best(0, 2), 800);
        x.gone(0, 3, true);
        // 412, 412 and 300 about 0, 1.
        due("without the last one", x.fit(0, 0, 0, 0), 748);
        x.gone(0, 3, false);
        due("as before", x.best(0, 2), 800);
        tell(x, RING + OVAL + ";");
        yes("by another grid", x.fit(0, 0, 0, 2) != 0 || x.fit(0, 0, 0, 1) <= 200);
        tell(x, RING + OVAL + ";grid 0 1;");
        due("by the first one again", x.best(0, 3), 150);
        tell(x, RING + " stone 9 9 stone 9 9;");
        due("no fit", x.best(0, 3), -1);
    }
}
