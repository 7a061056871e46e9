import java.util.NoSuchElementException;

/** What the tests share: answers beside those that are due, texts put on a tape, and all that an object tells. */
abstract class Checks {
    static final int NO = Integer.MIN_VALUE;
    static final int MAX = Integer.MAX_VALUE;
    /* Exceptions of look() as numbers that no answer can be. */
    static final int NO_INDEX = 7001;
    static final int NO_ELEMENT = 7002;
    /* Four stones about a middle at 0, 0; with "grid 0 1" the ring is round, of size 20000. */
    static final String SQUARE = ring(100);

    private static String sentence = "";
    private static int wrong = 0;
    private static int held = 0;

    /** The sentence of the document that the answers below are due by. */
    static void says(String words) {
        sentence = words;
    }

    static void due(String call, long got, long want) {
        if (got == want) {
            held++;
        } else {
            wrong++;
            System.out.println(call + " answered " + got + ", due is " + want + (sentence.isEmpty() ? "" : " by: " + sentence));
        }
    }

    static void same(String call, String got, String want) {
        if (got.equals(want)) {
            held++;
        } else {
            wrong++;
            System.out.println(call + ": it is\n  " + got + "\nand should still be\n  " + want + "\nby: " + sentence);
        }
    }

    static void yes(String call, boolean got) {
        due(call, got ? 1 : 0, 1);
    }

    static void no(String call, boolean got) {
        due(call, got ? 1 : 0, 0);
    }

    static void end() {
        System.out.println(held + " answers as due, " + wrong + " not");
        if (wrong != 0) {
            System.exit(1);
        }
    }

    static String times(String part, int many) {
        return part.repeat(many);
    }

    /** Four stones as far from 0, 0: west and east, north and south. */
    static String ring(int radius) {
        return " stone " + radius + " 0 stone 0 " + radius + " stone -" + radius + " 0 stone 0 -" + radius;
    }

    static int letters(String name) {
        int letters = 0;
        for (int i = 0; i < 6; i++) {
            letters = letters << 5 | (i < name.length() ? name.charAt(i) - 'a' + 1 : 0);
        }
        return letters;
    }

    /** Puts a text on the tape, filled up to twenties with bytes that no text can have. */
    static void feed(YardRings x, String text) {
        StringBuilder s = new StringBuilder(text);
        while (s.length() % 20 != 0) {
            s.append('#');
        }
        for (int i = 0; i < s.length(); i += 20) {
            int[] n = new int[5];
            for (int k = 0; k < 20; k++) {
                n[k / 4] = n[k / 4] << 8 | s.charAt(i + k);
            }
            x.feed(n[0], n[1], n[2], n[3], n[4]);
        }
    }

    static int tell(YardRings x, String text) {
        feed(x, text);
        return x.text(text.length());
    }

    static YardRings told(String text) {
        YardRings x = new YardRings();
        if (tell(x, text) < 0) {
            wrong++;
            System.out.println("fault " + x.fault(0) + " at " + x.fault(1) + " in: " + text);
        }
        return x;
    }

    static void good(String text, int lines) {
        YardRings x = new YardRings();
        due("lines of " + text, tell(x, text), lines);
        due("fault of " + text, x.fault(0), 0);
        due("place of " + text, x.fault(1), -1);
    }

    static void bad(String text, int fault, int place) {
        YardRings x = new YardRings();
        due("answer to " + text, tell(x, text), -1);
        due("fault of " + text, x.fault(0), fault);
        due("place of " + text, x.fault(1), place);
    }

    static int looked(YardRings x, int ring, int stone, int what) {
        try {
            return x.look(ring, stone, what);
        } catch (IndexOutOfBoundsException e) {
            return NO_INDEX;
        } catch (NoSuchElementException e) {
            return NO_ELEMENT;
        }
    }

    /** All that an object tells, in some 150 calls, to see that a refused call changes nothing of it. */
    static String all(YardRings x) {
        StringBuilder s = new StringBuilder("count");
        for (int what = 0; what <= 13; what++) {
            put(s, x.count(what));
        }
        s.append(" fault");
        put(s, x.fault(0));
        put(s, x.fault(1));
        s.append(" named");
        for (int what = 0; what < 4; what++) {
            put(s, x.named(what, letters("l")));
            put(s, x.named(what, letters("a")));
        }
        for (int ring = 0; ring < 3; ring++) {
            s.append(" ring");
            for (int what = 0; what < 3; what++) {
                put(s, x.about(ring, what));
            }
            for (int stone = 0; stone < 3; stone++) {
                for (int what = 0; what < 6; what++) {
                    put(s, looked(x, ring, stone, what));
                }
            }
            put(s, x.best(ring, 0));
            put(s, x.best(ring, 2));
            put(s, x.well(ring));
            put(s, x.span(ring, 1));
            put(s, x.fit(ring, 1, 1, 2));
        }
        return s.append(ofUnits(x)).toString();
    }

    private static String ofUnits(YardRings x) {
        StringBuilder s = new StringBuilder(" units");
        put(s, x.whole(20000, 3000, 0));
        put(s, x.near(3000));
        put(s, x.lumps(3000));
        put(s, x.unit(3000, 4000, 10, 0));
        put(s, x.odds(300, 1));
        put(s, x.any(3000, 3000, 1, 1500, 1, 9));
        put(s, x.chosen(3000, 0));
        put(s, x.tells(0, 3000, 0));
        put(s, x.tells(0, 3000, 1));
        put(s, x.hump(3000, 4));
        put(s, x.wander(3000, -1));
        put(s, x.land(0, 3000, 4000, 10));
        put(s, x.apart(3000, 4000, 10));
        put(s, x.sort(0, 3000, 1));
        put(s, x.blind(3000, 0));
        put(s, x.blind(3000, 3));
        put(s, x.lean(0, 0));
        put(s, x.ahead(0, 3000, 4000, 10, 0));
        put(s, x.ahead(0, 3000, 4000, 10, 2));
        put(s, x.next());
        return s.toString();
    }

    private static void put(StringBuilder s, long number) {
        s.append(' ').append(number);
    }
}
