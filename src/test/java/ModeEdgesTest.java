/**
 * "MODE and HALVES are as told for all of this (0 and no at first)": all that is asked of units, by eight rings of each
 * sort in three lands and by each mode, beside what the document tells of the rings' sizes, worked out in the plainest way.
 */
public final class ModeEdgesTest extends Checks {
    private static final int PARTS = 1000000000;
    private static final String TEXT = "land l;land m;land n;ring a l" + ring(100) + ";ring b m" + oval(1) + ";"
        + "ring c n stone 6 0 stone -9 0 stone 0 12 stone 0 -15 stone 3 3;ring d l stone 40 0 lean -3 1 stone 0 40 lean 2 -5 stone -40 0 lean 7 0 "
        + "stone 0 -40 again;ring e m" + oval(9) + " again stone 9 9;ring f n" + ring(23) + " stone 1 1 gone;ring g m stone 5 5 stone 8 8 stone 3 9 gone;ring h n stone 7 0 "
        + "stone 0 9 again stone -8 0 lean 5 5 stone 0 -8 lean -1 1;way v 3 9 5 2 1 0 7;way w 5 1 2 3 4 5 6;said k a 20111 blind;said j h 1750;said k c 1777;"
        + "said k g 9;";
    private static final int[] UNITS = {100, 101, 163, 399, 700, 1101, 2000, 2807, 3999, 6400, 9999};

    private static int mode;
    private static boolean halves;
    private static YardRings rings;
    private static final int[] SIZES = new int[8];

    public static void main(String[] args) {
        says("MODE and HALVES are as told for all of this (0 and no at first).");
        atFirst();
        for (int i = 0; i < 8; i++) {
            mode = i % 4;
            halves = i >= 4;
            byUnits();
            byManyUnits();
            bySayings();
            byNotes();
        }
        end();
    }

    private static String oval(int by) {
        return " stone " + 3 * by + " 0 stone -" + 3 * by + " 0 stone 0 " + 4 * by + " stone 0 -" + 4 * by;
    }

    private static void ask(String more) {
        rings = told(TEXT + more);
        rings.mode(mode, halves);
        learn();
    }

    private static void learn() {
        for (int ring = 0; ring < 8; ring++) {
            SIZES[ring] = rings.best(ring, 2);
        }
    }

    private static void atFirst() {
        YardRings x = told(TEXT);
        String before = all(x);
        x.mode(0, false);
        same("mode(0, false)", all(x), before);
        int sorts = 0;
        for (int ring = 0; ring < 8; ring++) {
            sorts |= x.best(ring, 0) < 0 ? 8 : 1 << x.best(ring, 0);
        }
        due("rings of each sort, and one without a fit", sorts, 15);
        due("fits", x.count(13), 7);
        x.mode(1, false);
        due("fits without those set up again", x.count(13), 7);
        due("those that stand then", x.about(3, 2) + x.about(4, 2) + x.about(6, 2) + x.about(7, 2), 3 + 4 + 2 + 3);
    }

    // ---- the document's words about one size

    private static int places(int unit) {
        return halves ? unit / 2 : unit;
    }

    private static int off(int size, int unit) {
        int rest = size % places(unit);
        return Math.min(rest, places(unit) - rest);
    }

    private static int times(int size, int unit) {
        int below = size / places(unit);
        return size - below * places(unit) <= (below + 1) * places(unit) - size ? below : below + 1;
    }

    private static int lumps(int size, int unit) {
        return 4000 * off(size, unit) / places(unit);
    }

    private static int bin(int size, int unit) {
        return Math.min(5, 12 * off(size, unit) / places(unit));
    }

    /** Lumps of the rings of a land and a sort, or of all if that is -1. */
    private static int lumps(int unit, int land, int sort) {
        int sum = 0;
        for (int ring = 0; ring < 8; ring++) {
            if (counts(ring, land, sort)) {
                sum += lumps(SIZES[ring], unit);
            }
        }
        return sum;
    }

    private static boolean counts(int ring, int land, int sort) {
        return SIZES[ring] >= 0 && (land < 0 || rings.about(ring, 0) == land) && (sort < 0 || rings.best(ring, 0) == sort);
    }

    private static int bestUnit(int a, int b, int c, int land) {
        int found = a;
        for (int unit = a; unit <= b; unit += c) {
            found = lumps(unit, land, -1) < lumps(found, land, -1) ? unit : found;
        }
        return found;
    }

    private static int fitted() {
        int many = 0;
        for (int size : SIZES) {
            many += size >= 0 ? 1 : 0;
        }
        return many;
    }

    // ---- what is asked

    private static void byUnits() {
        for (int unit : UNITS) {
            ask("");
            String by = " by " + unit + ", mode " + mode + (halves ? ", halves" : "");
            due("lumps" + by, rings.lumps(unit), lumps(unit, -1, -1));
            int near = 0;
            int[] hump = new int[6];
            int[] wander = new int[4];
            int[] many = new int[3];
            for (int ring = 0; ring < 8; ring++) {
                int size = SIZES[ring];
                if (size < 0) {
                    continue;
                }
                near |= 8 * off(size, unit) <= unit ? 1 << ring : 0;
                hump[bin(size, unit)]++;
                many[rings.best(ring, 0)]++;
                int most = 0;
                for (int rod = 0; times(size, unit) > 0 && rod * times(size, unit) < off(size, unit) * (halves ? 2 : 1); rod++) {
                    most = rod + 1;
                }
                wander[3] = Math.max(wander[3], most);
                wander[rings.about(ring, 0)] = Math.max(wander[rings.about(ring, 0)], most);
            }
            due("near" + by, rings.near(unit), near);
            for (int i = 0; i < 6; i++) {
                due("hump " + i + by, rings.hump(unit, i), hump[i]);
            }
            for (int i = 0; i < 3; i++) {
                due("wander " + i + by, rings.wander(unit, i), wander[i]);
                due("how many of sort " + i + by, rings.sort(i, unit, 1), many[i]);
                due("lumps of sort " + i + by, rings.sort(i, unit, 0), lumps(unit, -1, i));
            }
            due("wander of all" + by, rings.wander(unit, -1), wander[3]);
            tells(unit, by);
            chosen(unit, by);
            odds(unit, by);
        }
    }

    private static void tells(int unit, String by) {
        int[][] ways = {{3, 9, 5, 2, 1, 0, 7}, {5, 1, 2, 3, 4, 5, 6}};
        long[] product = {3, 5};
        for (int way = 0; way < 2; way++) {
            for (int size : SIZES) {
                product[way] *= size < 0 ? 1 : ways[way][1 + bin(size, unit)];
            }
        }
        for (int way = 0; way < 2; way++) {
            long above = rings.tells(way, unit, 0);
            long below = rings.tells(way, unit, 1);
            due("tells " + way + by, above * (product[0] + product[1]), below * product[way]);
            due("in least terms", gcd(above, below), below == 0 ? 0 : 1);
        }
    }

    private static long gcd(long a, long b) {
        return b == 0 ? a : gcd(b, a % b);
    }

    private static void chosen(int unit, String by) {
        int sum = 0;
        int others = 0;
        for (int ring = 0; ring < 8; ring++) {
            int least = -1;
            boolean best = false;
            for (int shape = 0; shape < 12; shape++) {
                if ((rings.well(ring) < 0 ? 0 : rings.well(ring) >> shape & 1) == 0) {
                    continue;
                }
                int size = rings.fit(ring, shape / 4, shape % 4, 0);
                if (least < 0 || off(size, unit) < off(least, unit)) {
                    least = size;
                    best = rings.best(ring, 0) == shape / 4 && rings.best(ring, 1) == shape % 4;
                }
            }
            if (least >= 0) {
                sum += lumps(least, unit);
                others += best ? 0 : 1;
            }
        }
        due("chosen" + by, rings.chosen(unit, 0), sum);
        due("not best" + by, rings.chosen(unit, 1), others);
    }

    private static void odds(int unit, String by) {
        long[] row = new long[10];
        row[0] = PARTS;
        for (int size : SIZES) {
            if (size < 0) {
                continue;
            }
            long near = 0;
            for (int rest = 0; rest < places(unit); rest++) {
                near += 8 * Math.min(rest, places(unit) - rest) <= unit ? 1 : 0;
            }
            for (int k = 9; k >= 0; k--) {
                row[k] = row[k] * (places(unit) - near) / places(unit) + (k > 0 ? row[k - 1] * near / places(unit) : 0);
            }
        }
        long sum = 0;
        for (int k = 9; k >= 0; k--) {
            sum += row[k];
            due("odds of " + k + by, rings.odds(unit, k), k > fitted() ? -1 : sum);
        }
    }

    private static void byManyUnits() {
        int[][] units = {{100, 199, 1}, {250, 550, 150}, {701, 1691, 10}, {2000, 9999, 80}, {3000, 3999, 333}, {5001, 5001, 7}, {9000, 9999, 10}};
        for (int[] u : units) {
            ask("");
            String by = " by " + u[0] + " .. " + u[1] + ", mode " + mode + (halves ? ", halves" : "");
            int found = bestUnit(u[0], u[1], u[2], -1);
            due("unit" + by, rings.unit(u[0], u[1], u[2], 0), found);
            due("its lumps" + by, rings.unit(u[0], u[1], u[2], 1), lumps(found, -1, -1));
            int least = 10000;
            int greatest = 0;
            for (int land = 0; land < 3; land++) {
                int own = bestUnit(u[0], u[1], u[2], land);
                due("land " + land + by, rings.land(land, u[0], u[1], u[2]), own);
                least = Math.min(least, own);
                greatest = Math.max(greatest, own);
            }
            due("apart" + by, rings.apart(u[0], u[1], u[2]), greatest - least);
            for (int sway = 3; sway < 9999; sway *= 9) {
                due("any" + by, rings.any(u[0], u[1], u[2], sway, 1234567890, 20), drawn(u, sway, 1234567890, 20));
            }
        }
    }

    private static int drawn(int[] u, int sway, long seed, int draws) {
        int least = lumps(bestUnit(u[0], u[1], u[2], -1), -1, -1);
        int[] own = SIZES.clone();
        long last = seed;
        int many = 0;
        for (int draw = 0; draw < draws; draw++) {
            for (int ring = 0; ring < 8; ring++) {
                if (own[ring] >= 0) {
                    last = (last * 1103515245L + 12345L) % (1L << 31);
                    SIZES[ring] = (int) Math.max(0, own[ring] + last / 65536 % (2L * sway + 1) - sway);
                }
            }
            many += lumps(bestUnit(u[0], u[1], u[2], -1), -1, -1) <= least ? 1 : 0;
        }
        System.arraycopy(own, 0, SIZES, 0, own.length);
        return many;
    }

    private static void bySayings() {
        ask("");
        for (int unit : UNITS) {
            due("blind by " + unit, rings.blind(unit, 0), off(20111, unit));
            due("others by " + unit, rings.blind(unit, 2), off(1750, unit) + off(1777, unit) + off(9, unit));
        }
        int above = 20111 - SIZES[0] + 1777 - SIZES[2];
        due("lean of k", rings.lean(0, 0) * 2, above * rings.lean(0, 1));
        due("lean of j", rings.lean(1, 0), SIZES[7] < 0 ? 0 : 1750 - SIZES[7]);
        int next = -1;
        int widest = -1;
        for (int ring = 0; ring < 8; ring++) {
            int width = rings.span(ring, 1) - rings.span(ring, 0);
            if (SIZES[ring] >= 0 && width > widest) {
                widest = width;
                next = ring;
            }
        }
        due("next", rings.next(), next);
    }

    private static void byNotes() {
        ask("");
        int[] then = SIZES.clone();
        // One ring less has a fit, one more, two have another size, and one is elsewhere with the same size.
        rings.gone(0, 0, true);
        rings.gone(0, 1, true);
        rings.tape(7, 0, 19, 0);
        rings.gone(6, 2, false);
        rings.gone(5, 4, false);
        for (int stone = 0; stone < 5; stone++) {
            rings.tape(2, stone, looked(rings, 2, stone, 0) - 20, looked(rings, 2, stone, 1) + 30);
        }
        learn();
        int[] now = SIZES.clone();
        due("one less", now[0], -1);
        yes("one more", now[6] >= 0 && then[6] < 0);
        yes("two others", now[7] != then[7] && now[5] != then[5]);
        due("one as before", now[2], then[2]);
        for (int n = 0; n <= 10; n++) {
            rings.known(n);
            learn();
            int unit = bestUnit(701, 1691, 90, -1);
            due("ahead by " + n + ": the unit", ahead(n, 0), unit);
            int near = 0;
            int many = 0;
            for (int ring = 0; ring < 8; ring++) {
                if (now[ring] >= 0 && now[ring] != SIZES[ring]) {
                    many++;
                    near += 8 * off(now[ring], unit) <= unit ? 1 : 0;
                }
            }
            due("ahead by " + n + ": near ones", ahead(n, 1), near);
            due("ahead by " + n + ": of how many", ahead(n, 2), many);
        }
    }

    private static int ahead(int n, int what) {
        rings.known(-1);
        return rings.ahead(n, 701, 1691, 90, what);
    }
}
