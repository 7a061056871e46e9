/** Each promise by hand: ordinary inputs, the edges that the document names, and wrong inputs. */
public final class PromiseTest extends Checks {
    public static void main(String[] args) {
        newObject();
        feed();
        text();
        textBehindText();
        fullText();
        faultsOfLines();
        faultsOfNumbersAndLimits();
        faultsOfRules();
        named();
        look();
        about();
        notes();
        known();
        mode();
        fit();
        fitOfTies();
        fitAnew();
        best();
        wellAndSpan();
        whole();
        near();
        rules();
        lumpsAndUnit();
        odds();
        any();
        chosen();
        tellsAndHump();
        wander();
        lands();
        sort();
        blindAndLean();
        ahead();
        next();
        count();
        end();
    }

    // ---- 1 to 4

    private static void newObject() {
        YardRings x = new YardRings();
        int[] counts = {0, 0, 0, 0, 0, 0, 0, 0, 4, 6, 300, 0, 0, 0};
        for (int what = 0; what < counts.length; what++) {
            due("count " + what + " of a new object", x.count(what), counts[what]);
        }
        due("fault(0)", x.fault(0), 0);
        due("fault(1)", x.fault(1), -1);
        due("text(1) of an empty tape", x.text(1), -2);
        due("text(0)", x.text(0), 0);
        due("well(0)", x.well(0), -1);
        due("best(0, 0)", x.best(0, 0), -1);
        due("near(100)", x.near(100), 0);
        due("NONE", YardRings.NONE, -1);
    }

    private static void feed() {
        YardRings x = new YardRings();
        int land = 0x6c616e64;
        due("feed", x.feed(land, 0x2061623b, 0x20202020, 0x20202020, 0x20202020), 20);
        due("the highest byte comes first", x.text(8), 1);
        due("land ab", x.named(0, 1 << 25 | 2 << 20), 0);
        for (int i = 1; i <= 45; i++) {
            due("feed " + i, x.feed(0x20202020, 0x20202020, 0x20202020, 0x20202020, 0x20202020), 20 * i);
        }
        due("feed beyond 900", x.feed(0, 0, 0, 0, 0), -1);
        due("none came", x.text(901), -2);
        due("the tape stays", x.text(900), 0);
        due("feed again", x.feed(-1, -1, -1, -1, -1), 20);
        due("bytes 255", x.text(1), -1);
        due("their fault", x.fault(0), 1);
        due("their place", x.fault(1), 0);
    }

    private static void text() {
        YardRings x = told("land l;ring a l" + SQUARE + ";slack 7;");
        x.gone(0, 0, true);
        x.gone(0, 1, true);
        x.known(1);
        due("a text with a fault", tell(x, "land m;land n;slack 9;grid 1 1;near 1;oops;"), -1);
        due("its fault", x.fault(0), 1);
        due("its place", x.fault(1), 38);
        due("lands stay", x.count(0), 1);
        due("rings stay", x.count(1), 1);
        due("slack stays", x.count(10), 7);
        due("the grid stays", x.count(8), 4);
        due("the rule stays", x.count(7), 0);
        due("notes stay", x.count(5), 2);
        due("known by stays", x.count(6), 1);
        due("stones stay", x.about(0, 2), 3);
        due("fault(2)", x.fault(2), -1);
        due("fault(-1)", x.fault(-1), -1);
        due("the tape is empty", x.text(1), -2);
        due("the fault stays behind -2", x.fault(1), 38);
        feed(x, "land m;land n;");
        due("too many bytes", x.text(21), -2);
        due("below none", x.text(-1), -2);
        due("the least n", x.text(NO), -2);
        due("the first bytes alone", x.text(7), 1);
        due("the rest of the tape is gone", x.text(1), -2);
        due("no fault", x.fault(0), 0);
        due("no place", x.fault(1), -1);
        due("one land", x.count(0), 1);
        due("no rings", x.count(1), 0);
        due("no notes", x.count(5), 0);
        due("all known", x.count(6), 0);
        due("the slack of a text without it", x.count(10), 300);
        x.mode(3, true);
        due("mode stays", tell(x, "land m;"), 1);
        due("mode", x.count(11), 3);
        due("halves", x.count(12), 1);
    }

    private static void textBehindText() {
        YardRings x = told("land l;land m;ring a l" + SQUARE + " stone 1 1 lean 5 5 again gone;ring b m;way v 1 1 1 1 1 1 1;"
            + "way w 1 1 1 1 1 1 1;said k a 1 blind;said j a 2;near 0;grid 2 3;slack 5;");
        due("a second text", tell(x, "land z;ring y z stone 1 2 stone 3 4 stone 5 6 stone 7 8 stone 9 9;way q 2 1 1 1 1 1 1;"), 3);
        int[] due = {1, 1, 1, 0, 0, 0, 0, 0, 4, 6, 300, 0, 0, 1};
        for (int what = 0; what < due.length; what++) {
            due("count(" + what + ") by the second text", x.count(what), due[what]);
        }
        due("no such land more", x.named(0, letters("l")), -1);
        due("no such measurer more", x.named(3, letters("k")), -1);
        due("no lean more", looked(x, 0, 4, 2), 0);
        due("not again", looked(x, 0, 4, 4), 0);
        due("not gone", looked(x, 0, 4, 5), 0);
        due("one way alone", x.tells(0, 500, 1), 1);
        due("no sayings", x.blind(500, 1), 0);
        yes("no rule", x.near(x.best(0, 2)) == 1);
        due("all lines told anew", tell(x, "near 1;grid 1 1;slack 1;"), 3);
        String knots = "near " + times("not ", 39) + "1;";
        due("forty knots", tell(x, knots), 1);
        due("forty knots again", tell(x, knots), 1);
        due("knots", x.count(7), 40);
        bad("near ((1", 1, 8);
        tell(x, "near ((((1");
        due("brackets left open don't stay open", tell(x, "near " + times("(", 8) + "1" + times(")", 8) + ";"), 1);
        // Bytes behind the first n are not read, even where they would belong to the last token.
        feed(x, "land ab;");
        due("a word cut off", x.text(6), -1);
        due("its place", x.fault(1), 6);
        feed(x, "slack 12;");
        due("a number cut off", x.text(7), -1);
        due("its place", x.fault(1), 7);
        feed(x, "near 1<=2;");
        due("a sign cut off", x.text(7), -1);
        due("its place", x.fault(1), 7);
    }

    private static void fullText() {
        StringBuilder text = new StringBuilder("land l;grid 0 1;near size<1;");
        for (char ring = 'a'; ring < 'i'; ring++) {
            text.append("ring ").append(ring).append(" l ").append(times("stone7 8", 10)).append(";");
        }
        YardRings x = told(text.toString());
        due("fits", x.count(13), 8);
        due("all are near", x.near(100), 255);
        due("the last stone", looked(x, 7, 9, 1), 8);
        due("tape the last stone", x.tape(7, 9, 5, 6), 0);
        due("x", looked(x, 7, 9, 0), 5);
        due("y", looked(x, 7, 9, 1), 6);
        due("gone", x.gone(7, 9, true), 1);
        due("is gone", looked(x, 7, 9, 5), 1);
        due("the others stay", looked(x, 7, 8, 0), 7);
        due("near", x.near(100), 255);
        // Each ring is near by one place of a hundred.
        due("all eight by nothing", x.odds(100, 8), 0);
        YardRings y = told(text.toString().replace("size<1", "off<25"));
        // Of a hundred places 49 are off less than 25.
        long part = 1000000000;
        for (int i = 0; i < 8; i++) {
            part = part * 49 / 100;
        }
        due("all eight", y.odds(100, 8), part);
        due("nine", y.odds(100, 9), -1);
    }

    private static void faultsOfLines() {
        good("", 0);
        good(" \n ", 0);
        good("land a;", 1);
        good("\nland\na\n;land bb ; land abcdef;", 3);
        bad("land", 1, 4);
        bad("land ", 1, 5);
        bad("land a", 1, 6);
        bad("land a ", 1, 7);
        bad(";", 1, 0);
        bad("land a;;", 1, 7);
        bad("land;", 1, 4);
        bad("land 5;", 1, 5);
        bad("land abcdefg;", 1, 5);
        bad("land aB;", 1, 6);
        bad("land a\t;", 1, 6);
        bad("land a\r;", 1, 6);
        bad("land " + (char) 233 + ";", 1, 5);
        bad("land " + (char) 0 + ";", 1, 5);
        bad("land a b;", 1, 7);
        bad("landa;", 1, 0);
        bad("abcdefgh;", 1, 0);
        bad("stone 1 1;", 1, 0);
        for (String word : ("land ring stone lean again gone way near said blind grid slack or and not off unit size "
            + "times stones sort").split(" ")) {
            bad("land " + word + ";", 1, 5);
            good("land " + word.charAt(0) + "x;", 1);
        }
        bad("land a;land a;", 3, 12);
        good("land a;ring a a;way a 1 1 1 1 1 1 1;said a a 1;", 4);
        bad("land a;ring a a;ring a a;", 3, 21);
        bad("way w 1 1 1 1 1 1 1;way w 1 1 1 1 1 1 1;", 3, 24);
        bad("ring a b;land b;", 4, 7);
        bad("land a;ring a b;", 4, 14);
        bad("said k a 5;", 4, 7);
        bad("land l;ring a l;said k b 5;", 4, 23);
        bad("near 1;near 2;", 3, 7);
        bad("grid 1 1;grid 1 1;", 3, 9);
        bad("slack 1;slack 1;", 3, 8);
        bad("land A;land a;land a;", 1, 5);
        bad("land l;ring a l;said k a 5 blind blind;", 1, 33);
        bad("land l;ring a l;said k a 5 lean;", 1, 27);
        bad("land l;ring a l;said k a;", 1, 24);
        bad("way w 1 1 1 1 1 1;", 1, 17);
        bad("way w 1 1 1 1 1 1 1 1;", 1, 20);
        bad("way w -1 1 1 1 1 1 1;", 1, 6);
        bad("way w 1 -0 1 1 1 1 1;", 1, 8);
        bad("grid -0 1;", 1, 5);
        bad("slack -0;", 1, 6);
        bad("grid 1;", 1, 6);
        bad("slack;", 1, 5);
        String ring = "land l;ring a l";
        good(ring + " stone1 2stone-3-4lean5-6again gone;", 2);
        bad(ring + " stone 1;", 1, 23);
        bad(ring + " stone - - 1 0;", 1, 24);
        bad(ring + " stone 1 1 gone again;", 1, 31);
        bad(ring + " stone 1 1 again lean 1 1;", 1, 32);
        bad(ring + " stone 1 1 lean 1;", 1, 32);
        bad(ring + " lean 1 1;", 1, 16);
        bad(ring + " stone 1 1 1;", 1, 26);
    }

    private static void faultsOfNumbersAndLimits() {
        String ring = "land l;ring a l";
        good(ring + " stone 999 -999 lean -99 99;", 2);
        bad(ring + " stone 1000 0;", 2, 22);
        bad(ring + " stone -1000 0;", 2, 23);
        bad(ring + " stone 0 1000;", 2, 24);
        bad(ring + " stone 0 0 lean 100 0;", 2, 31);
        bad(ring + " stone 0 0 lean 0 -100;", 2, 34);
        good(ring + times(" stone 1 1", 10) + ";", 2);
        bad(ring + times(" stone 1 1", 11) + ";", 2, 116);
        bad(ring + times(" stone 1 1", 10) + " stone", 2, 116);
        good("way w 99 99 0 0 0 0 0;", 1);
        bad("way w 0", 2, 6);
        bad("way w 100", 2, 6);
        bad("way w 1 100", 2, 8);
        bad("way w 1 1 1 1 1 1 100", 2, 18);
        good("grid 0 1;", 1);
        good("grid 9 20;", 1);
        bad("grid 10 1;", 2, 5);
        bad("grid 1 0;", 2, 7);
        bad("grid 1 21;", 2, 7);
        good("slack 0;", 1);
        good("slack 9999;", 1);
        bad("slack 10000;", 2, 6);
        bad("slack 99999999999999999999;", 2, 6);
        bad("slack 4294967296;", 2, 6);
        good("slack 00000000000000000001;", 1);
        good(ring + ";said k a 1;said k a 99999;", 4);
        bad(ring + ";said k a 0;", 2, 25);
        bad(ring + ";said k a 100000;", 2, 25);
        String lands = "land a;land b;land c;land d;";
        good(lands, 4);
        bad(lands + "land e;", 2, 28);
        bad(lands + "land", 2, 28);
        bad(lands + "land a;", 2, 28);
        StringBuilder rings = new StringBuilder("land l;");
        StringBuilder ways = new StringBuilder();
        StringBuilder said = new StringBuilder("land l;ring a l;");
        for (int i = 0; i < 8; i++) {
            rings.append("ring ").append((char) ('a' + i)).append(" l;");
            ways.append(i < 5 ? "way " + (char) ('a' + i) + " 1 1 1 1 1 1 1;" : "");
            said.append(i < 6 ? "said " + (char) ('a' + i) + " a 1;" : "");
        }
        good(rings.toString(), 9);
        bad(rings + "ring i l;", 2, rings.length());
        good(ways.toString(), 5);
        bad(ways + "way f 1 1 1 1 1 1 1;", 2, ways.length());
        good(said + "said a a 1;", 9);
        bad(said + "said g a 1;", 2, said.length() + 5);
        String twenty = "land l;ring a l;" + times("said k a 1;", 20);
        good(twenty, 22);
        bad(twenty + "said k a 1;", 2, twenty.length());
    }

    private static void faultsOfRules() {
        good("near 9999;", 1);
        bad("near 10000;", 2, 5);
        bad("near;", 1, 4);
        bad("near 1", 1, 6);
        bad("near -1;", 1, 5);
        bad("near foo;", 1, 5);
        bad("near land;", 1, 5);
        bad("near 1 2;", 1, 7);
        bad("near 1 or;", 1, 9);
        bad("near 1+;", 1, 7);
        bad("near (1;", 1, 7);
        bad("near (1", 1, 7);
        bad("near 1);", 1, 6);
        bad("near ();", 1, 6);
        bad("near 1(2);", 1, 6);
        good("near " + times("(", 8) + "1" + times(")", 8) + ";", 1);
        bad("near " + times("(", 9) + "1" + times(")", 9) + ";", 2, 13);
        bad("near " + times("(", 9), 2, 13);
        good("near " + times("(1)+", 20) + "1;", 1);
        bad("near 1" + times("(", 9), 1, 6);
        good("near 1<=2;", 1);
        good("near 1<>2;", 1);
        good("near 1>=2;", 1);
        bad("near 1< =2;", 1, 8);
        bad("near 1< >2;", 1, 8);
        bad("near 1> =2;", 1, 8);
        bad("near 1=<2;", 1, 7);
        bad("near 1=>2;", 1, 7);
        bad("near 1><2;", 1, 7);
        bad("near 1<=>2;", 1, 8);
        bad("near 1==2;", 1, 7);
        bad("near 1<2<3;", 1, 8);
        bad("near 1+1<2*2=3;", 1, 12);
        bad("near not 1<2<3;", 1, 12);
        good("near (1<2)<3;", 1);
        good("near 1<(2<3);", 1);
        good("near 1<2 and 2<3 or not 3<4;", 1);
        good("near not not 1;", 1);
        good("near 1 and not not 1;", 1);
        good("near (not 1)+2;", 1);
        bad("near 1+not 2;", 1, 7);
        bad("near 1<not 2;", 1, 7);
        bad("near 1*not 2;", 1, 7);
        bad("near 1 not 2;", 1, 7);
        bad("near (1 not 2);", 1, 8);
        bad("near 1 and or 2;", 1, 11);
        String knots = "near " + times("not ", 63);
        good(knots + "1;", 1);
        good(knots + "((off));", 1);
        bad(knots + "not 1;", 2, knots.length() + 4);
        bad(knots + "1+1;", 2, knots.length() + 1);
        bad(knots + "1 and 1;", 2, knots.length() + 2);
        bad(knots + "1 1;", 1, knots.length() + 2);
        bad(knots + "not not 1;", 2, knots.length() + 4);
        bad(knots + "not );", 1, knots.length() + 4);
        bad("near 1" + times("+1", 32) + ";", 2, 5 + 64);
        due("knots", told(knots + "1;").count(7), 64);
        due("knots without brackets", told("near (off+1)*2<=unit and not (size=0 or sort<>1);").count(7), 16);
    }

    // ---- 5 to 12

    private static void named() {
        YardRings x = told("land a;land zzzzzz;ring a a;ring ab a;way rod 1 1 1 1 1 1 1;said kim a 1;said jo a 1;said kim a 2;");
        due("land a", x.named(0, letters("a")), 0);
        due("land zzzzzz", x.named(0, letters("zzzzzz")), 1);
        due("ring a", x.named(1, letters("a")), 0);
        due("ring ab", x.named(1, letters("ab")), 1);
        due("way rod", x.named(2, letters("rod")), 0);
        due("kim", x.named(3, letters("kim")), 0);
        due("jo", x.named(3, letters("jo")), 1);
        due("no such land", x.named(0, letters("ab")), -1);
        due("no such kind", x.named(4, letters("a")), -1);
        due("no such kind", x.named(-1, letters("a")), -1);
        due("letters lowest", x.named(0, 1), -1);
        due("bits above", x.named(0, letters("a") | 1 << 30), -1);
        due("sign", x.named(0, letters("a") | NO), -1);
        due("no letters", x.named(3, 0), -1);
    }

    private static void look() {
        YardRings x = told("land l;ring a l stone 1 -2 lean -3 4 again gone stone 5 6;ring b l;");
        int[] first = {1, -2, -3, 4, 1, 1};
        int[] second = {5, 6, 0, 0, 0, 0};
        for (int what = 0; what < 6; what++) {
            due("look(0, 0, " + what + ")", looked(x, 0, 0, what), first[what]);
            due("look(0, 1, " + what + ")", looked(x, 0, 1, what), second[what]);
        }
        due("no such stone", looked(x, 0, 2, 0), NO_INDEX);
        due("no such stone", looked(x, 0, -1, 0), NO_INDEX);
        due("no such stone", looked(x, 1, 0, 0), NO_INDEX);
        due("no such ring", looked(x, 2, 0, 0), NO_INDEX);
        due("no such ring", looked(x, -1, 0, 0), NO_INDEX);
        due("no such ring", looked(x, Integer.MAX_VALUE, NO, 0), NO_INDEX);
        due("no such what", looked(x, 0, 0, 6), NO_ELEMENT);
        due("no such what", looked(x, 0, 0, -1), NO_ELEMENT);
        due("no such stone, no such what", looked(x, 0, 2, 6), NO_INDEX);
        due("a new object", looked(new YardRings(), 0, 0, 0), NO_INDEX);
    }

    private static void about() {
        YardRings x = told("land l;land m;ring a m stone 1 1 again stone 2 2 gone stone 3 3;ring b l;");
        due("land of a", x.about(0, 0), 1);
        due("land of b", x.about(1, 0), 0);
        due("stones of a", x.about(0, 1), 3);
        due("stones of b", x.about(1, 1), 0);
        due("standing", x.about(0, 2), 2);
        x.mode(1, false);
        due("standing, without those set up again", x.about(0, 2), 1);
        x.mode(2, false);
        due("standing, by inner sides", x.about(0, 2), 2);
        due("no such what", x.about(0, 3), -1);
        due("no such what", x.about(0, -1), -1);
        due("no such ring", x.about(2, 0), -1);
        due("no such ring", x.about(-1, 0), -1);
    }

    private static void notes() {
        YardRings x = told("land l;ring a l stone 1 2 lean 3 4 stone 5 6;");
        due("tape", x.tape(0, 0, -999, 999), 0);
        due("x", looked(x, 0, 0, 0), -999);
        due("y", looked(x, 0, 0, 1), 999);
        due("the lean stays", looked(x, 0, 0, 2), 3);
        due("gone", x.gone(0, 0, true), 1);
        due("is gone", looked(x, 0, 0, 5), 1);
        due("gone keeps the place", looked(x, 0, 0, 0), -999);
        due("tape again", x.tape(0, 0, 7, 8), 2);
        due("the last counts", looked(x, 0, 0, 0), 7);
        due("still gone", looked(x, 0, 0, 5), 1);
        due("there", x.gone(0, 0, false), 3);
        due("is there", looked(x, 0, 0, 5), 0);
        due("strike the third", x.strike(2), 4);
        due("the first counts anew", looked(x, 0, 0, 0), -999);
        due("strike the strike", x.strike(4), 5);
        due("the third counts", looked(x, 0, 0, 0), 7);
        due("strike that", x.strike(5), 6);
        due("the first counts", looked(x, 0, 0, 0), -999);
        due("no such note", x.strike(7), -1);
        due("no such note", x.strike(-1), -1);
        due("a strike of itself", x.strike(x.count(5)), -1);
        due("no such stone", x.tape(0, 2, 0, 0), -1);
        due("no such stone", x.gone(0, -1, true), -1);
        due("no such ring", x.tape(1, 0, 0, 0), -1);
        due("no such ring", x.gone(-1, 0, true), -1);
        due("x too great", x.tape(0, 0, 1000, 0), -1);
        due("x too small", x.tape(0, 0, -1000, 0), -1);
        due("y too great", x.tape(0, 0, 0, 1000), -1);
        due("y too small", x.tape(0, 0, 0, NO), -1);
        due("seven notes", x.count(5), 7);
        for (int i = 7; i < 60; i++) {
            due("note " + i, i % 3 == 0 ? x.tape(0, 1, i, i) : i % 3 == 1 ? x.gone(0, 1, false) : x.strike(0), i);
        }
        due("a 61st tape", x.tape(0, 1, 0, 0), -1);
        due("a 61st gone", x.gone(0, 1, true), -1);
        due("a 61st strike", x.strike(0), -1);
        due("sixty notes", x.count(5), 60);
        due("the last tape", looked(x, 0, 1, 0), 57);
        due("a struck first", looked(x, 0, 0, 0), 1);
    }

    private static void known() {
        YardRings x = told("land l;ring a l stone 0 0;");
        yes("known(0) of none", x.known(0));
        due("by how many", x.count(6), 0);
        due("a note behind what is known", x.tape(0, 0, 1, 1), 0);
        due("is not known", looked(x, 0, 0, 0), 0);
        yes("known(-1)", x.known(-1));
        due("is known", looked(x, 0, 0, 0), 1);
        x.tape(0, 0, 2, 2);
        due("those to come too", looked(x, 0, 0, 0), 2);
        due("by how many", x.count(6), 2);
        x.strike(1);
        due("struck", looked(x, 0, 0, 0), 1);
        yes("known(2)", x.known(2));
        due("a strike behind what is known doesn't count", looked(x, 0, 0, 0), 2);
        no("known(4)", x.known(4));
        no("known(-2)", x.known(-2));
        due("it stays", x.count(6), 2);
        yes("known(3)", x.known(3));
        x.strike(2);
        due("not those to come", looked(x, 0, 0, 0), 1);
        due("three", x.count(6), 3);
        due("four notes", x.count(5), 4);
    }

    private static void mode() {
        YardRings x = told("land l;ring a l stone 10 0 lean -1 0 stone 0 10 lean 0 -1 stone -10 0 lean 1 0 stone 0 -10 lean 0 1 "
            + "stone 50 50 again;grid 0 1;");
        yes("mode(3, true)", x.mode(3, true));
        due("mode", x.count(11), 3);
        due("halves", x.count(12), 1);
        no("mode(4, false)", x.mode(4, false));
        no("mode(-1, false)", x.mode(-1, false));
        due("mode stays", x.count(11), 3);
        due("halves stay", x.count(12), 1);
        due("inner sides without the one set up again", x.fit(0, 0, 0, 0), 1800);
        yes("mode(1, false)", x.mode(1, false));
        due("middles without the one set up again", x.fit(0, 0, 0, 0), 2000);
        due("their misfit", x.fit(0, 0, 0, 1), 0);
        yes("mode(0, false)", x.mode(0, false));
        due("the mean of all", x.fit(0, 0, 0, 2), 10);
        due("no halves", x.count(12), 0);
    }

    // ---- 13 to 16

    private static void fit() {
        YardRings x = told("land l;ring a l" + SQUARE + ";ring b l stone 0 0 stone 0 0 stone -1 0;ring c l stone 1 0 stone -1 0 "
            + "stone 0 0;ring d l stone 1 1 stone 2 2;grid 0 1;");
        due("size", x.fit(0, 0, 0, 0), 20000);
        due("misfit", x.fit(0, 0, 0, 1), 0);
        due("flattened east", x.fit(0, 1, 0, 0), 21650);
        due("flattened east, misfit", x.fit(0, 1, 0, 1), 4950);
        due("egg south", x.fit(0, 2, 3, 0), 18750);
        due("means are cut downwards", x.fit(1, 0, 0, 2), -1);
        due("and by y", x.fit(1, 0, 0, 3), 0);
        due("egg east cuts towards 0", x.fit(2, 2, 0, 0), 66);
        due("egg west cuts towards 0", x.fit(2, 2, 2, 0), 66);
        due("egg west, misfit", x.fit(2, 2, 2, 1), 133);
        due("flattened west cuts towards 0", x.fit(2, 1, 2, 0), 132);
        due("two stones", x.fit(3, 0, 0, 0), NO);
        due("round has turn 0 alone", x.fit(0, 0, 1, 0), NO);
        due("no such sort", x.fit(0, 3, 0, 0), NO);
        due("no such sort", x.fit(0, -1, 0, 0), NO);
        due("no such turn", x.fit(0, 1, 4, 0), NO);
        due("no such turn", x.fit(0, 1, -1, 0), NO);
        due("no such what", x.fit(0, 0, 0, 4), NO);
        due("no such what", x.fit(0, 0, 0, -1), NO);
        due("no such ring", x.fit(4, 0, 0, 0), NO);
        due("no such ring", x.fit(-1, 0, 0, 0), NO);
        x.gone(0, 0, true);
        due("three stones", x.fit(0, 0, 0, 0) == NO ? 0 : 1, 1);
        x.gone(0, 1, true);
        due("two stones that stand", x.fit(0, 0, 0, 0), NO);
        x.strike(1);
        x.strike(0);
        due("all stand again", x.fit(0, 0, 0, 0), 20000);
        x.tape(3, 0, 3, 4);
        due("still two", x.fit(3, 0, 0, 0), NO);
    }

    private static void fitOfTies() {
        // Three stones at one place are as far from every middle: all fits are alike, and the least i and k count.
        YardRings x = told("land l;ring a l stone 0 0 stone 0 0 stone 0 0;");
        due("x of the first middle", x.fit(0, 0, 0, 2), -24);
        due("y of the first middle", x.fit(0, 0, 0, 3), -24);
        due("size", x.fit(0, 0, 0, 0), 6788);
        due("flattened east", x.fit(0, 1, 0, 0), 8000);
        due("flattened west", x.fit(0, 1, 2, 0), 6788);
        due("egg north", x.fit(0, 2, 1, 0), 6000);
        due("best sort", x.best(0, 0), 0);
        due("all as well", x.well(0), 0xff1);
        due("the least size", x.span(0, 0), 6000);
        due("the greatest size", x.span(0, 1), 8000);
        // Off the mean by two steps of the grid east: the middle is found there.
        YardRings y = told("land l;ring a l stone 10 0 stone -10 0 stone 0 10 stone 0 -10 stone 6 8 stone 6 8 stone 6 -8 "
            + "stone 6 -8;grid 3 1;");
        due("the mean", told("land l;ring a l stone 10 0 stone -10 0 stone 0 10 stone 0 -10 stone 6 8 stone 6 8 stone 6 -8 "
            + "stone 6 -8;grid 0 1;").fit(0, 0, 0, 2), 3);
        due("the best middle", y.fit(0, 0, 0, 2), 0);
        due("its size", y.fit(0, 0, 0, 0), 2000);
        due("its misfit", y.fit(0, 0, 0, 1), 0);
    }

    private static void fitAnew() {
        // What was fitted once must not stay where a text, a mode or a note makes it another.
        String ring = "land l;ring a l stone 75 0 stone 0 100 stone -100 0 stone 0 -100;";
        YardRings x = told(ring + "grid 0 1;");
        due("the mean alone", x.fit(0, 1, 0, 2), -7);
        tell(x, ring + "grid 7 1;");
        due("the same stones by another grid", x.fit(0, 1, 0, 2), 0);
        tell(x, ring + "grid 7 2;");
        due("the same stones by another step", (x.fit(0, 1, 0, 2) + 7) % 2, 0);
        YardRings y = told("land l;ring a l stone 10 0 lean 5 0 stone -10 0 lean 5 0 stone 0 10 lean 5 0 stone 0 -10 lean 5 0;grid 0 1;");
        due("x by the middles", y.fit(0, 0, 0, 2), 0);
        y.mode(2, false);
        due("x by the inner sides", y.fit(0, 0, 0, 2), 5);
        YardRings z = told("land l;ring a l stone 10 0 lean 0 5 stone -10 0 lean 0 5 stone 0 10 lean 0 5 stone 0 -10 lean 0 5;grid 0 1;");
        due("y by the middles", z.fit(0, 0, 0, 3), 0);
        z.mode(2, false);
        due("y by the inner sides", z.fit(0, 0, 0, 3), 5);
        YardRings w = told("land l;ring a l stone 0 1 stone 0 -1 stone 0 0;grid 0 1;");
        due("egg north cuts towards 0", w.fit(0, 2, 1, 0), 66);
        due("egg south cuts towards 0", w.fit(0, 2, 3, 0), 66);
        due("flattened south cuts towards 0", w.fit(0, 1, 3, 0), 132);
    }

    private static void best() {
        // A ring that is round but for its east half, which is flatter: 75 times 4 by 3 is 100.
        YardRings x = told("land l;ring a l stone 75 0 stone 0 100 stone -100 0 stone 0 -100;grid 7 1;"
            + "ring b l stone 0 0 stone 1 1;");
        due("sort", x.best(0, 0), 1);
        due("turn", x.best(0, 1), 0);
        due("size", x.best(0, 2), 20000);
        due("misfit", x.best(0, 3), 0);
        due("the mean is 7 to the west of the middle", x.fit(0, 1, 0, 2), 0);
        yes("round does not fit so well", x.fit(0, 0, 0, 1) > 0);
        due("no such what", x.best(0, 4), -1);
        due("no such what", x.best(0, -1), -1);
        due("no fit", x.best(1, 0), -1);
        due("no such ring", x.best(2, 0), -1);
        due("no such ring", x.best(-1, 0), -1);
        for (int turn = 0; turn < 4; turn++) {
            for (int sort = 1; sort < 3; sort++) {
                yes("none fits better", x.fit(0, sort, turn, 1) >= x.best(0, 3));
            }
        }
    }

    private static void wellAndSpan() {
        String ring = "land l;ring a l" + SQUARE + ";ring b l;grid 0 1;";
        YardRings x = told(ring + "slack 3749;");
        due("round alone", x.well(0), 1);
        due("span least", x.span(0, 0), 20000);
        due("span greatest", x.span(0, 1), 20000);
        YardRings y = told(ring + "slack 3750;");
        due("round and all eggs", y.well(0), 0xf01);
        due("span least", y.span(0, 0), 18750);
        due("span greatest", y.span(0, 1), 20000);
        YardRings z = told(ring + "slack 4950;");
        due("all", z.well(0), 0xff1);
        due("span greatest", z.span(0, 1), 21650);
        due("no such what", z.span(0, 2), -1);
        due("no such what", z.span(0, -1), -1);
        due("no fit", z.span(1, 0), -1);
        due("no fit", z.well(1), -1);
        due("no such ring", z.well(2), -1);
        due("no such ring", z.well(-1), -1);
        due("no such ring", z.span(8, 0), -1);
    }

    // ---- 17 to 25

    private static void whole() {
        YardRings x = new YardRings();
        due("off", x.whole(20000, 3000, 0), 1000);
        due("times", x.whole(20000, 3000, 1), 7);
        due("as near to two", x.whole(1500, 1000, 0), 500);
        due("the lesser", x.whole(1500, 1000, 1), 1);
        due("just above", x.whole(1501, 1000, 1), 2);
        due("off just above", x.whole(1501, 1000, 0), 499);
        due("nothing", x.whole(0, 100, 0), 0);
        due("no times", x.whole(0, 100, 1), 0);
        due("the greatest", x.whole(999999, 9999, 1), 100);
        due("its off", x.whole(999999, 9999, 0), 99);
        due("size below", x.whole(-1, 100, 0), -1);
        due("size above", x.whole(1000000, 100, 0), -1);
        due("unit below", x.whole(0, 99, 0), -1);
        due("unit above", x.whole(0, 10000, 0), -1);
        due("no such what", x.whole(0, 100, 2), -1);
        due("no such what", x.whole(0, 100, -1), -1);
        x.mode(0, true);
        due("off by halves", x.whole(20000, 3000, 0), 500);
        due("times of halves", x.whole(20000, 3000, 1), 13);
        due("a half is cut", x.whole(200, 101, 1), 4);
        due("off by it", x.whole(201, 101, 0), 1);
        due("as near to two halves", x.whole(75, 101, 1), 1);
    }

    private static void near() {
        // Sizes 20000 and 2000; the third ring has no fit.
        String text = "land l;ring a l" + SQUARE + ";ring b l stone 10 0 stone 0 10 stone -10 0 stone 0 -10;ring c l;grid 0 1;";
        YardRings x = told(text);
        due("both", x.near(1000), 3);
        due("only a", x.near(4000), 1);
        due("off 1000 of 7000", x.near(7000), 0);
        due("8 times 285 is at most 2285", x.near(2285), 2);
        due("8 times 286 is above 2286", x.near(2286), 0);
        due("20000 by 2532 is off 256, 2000 is 532", x.near(2532), 1);
        due("20000 by 2531 is off 248, 8 by 248 is at most", x.near(2531), 1);
        due("20000 by 6154 is off 1538", x.near(6154), 0);
        due("unit below", x.near(99), -1);
        due("unit above", x.near(10000), -1);
        x.mode(0, true);
        due("by halves 20000 and 2000 of 4000", x.near(4000), 3);
        YardRings y = told(text + "near stones=4 and size<3000;");
        due("by a rule", y.near(5000), 2);
        YardRings z = told(text + "near times;");
        due("what isn't 0", z.near(5000), 1);
        due("by a unit above twice the size", z.near(4000), 1);
        due("by a unit below that", z.near(3999), 3);
        YardRings w = told("land l;ring a l" + SQUARE + ";ring b l stone 75 0 stone 0 100 stone -100 0 stone 0 -100;grid 7 1;near sort=1;");
        due("by its sort", w.near(5000), 2);
        due("odds by its sort", w.odds(100, 1), 1000000000);
        due("odds of both", w.odds(100, 2), 0);
    }

    private static void rule(String rule, int due) {
        YardRings x = told("land l;ring a l" + SQUARE + ";grid 0 1;near " + rule + ";");
        due("near " + rule, x.near(3000), due);
    }

    private static void rules() {
        rule("off=1000 and unit=3000 and size=20*1000 and times=7 and stones=4 and sort=0", 1);
        rule("1-2", 1);
        rule("2-2", 0);
        rule("7/2=3", 1);
        rule("(0-7)/2=0-3", 1);
        rule("2+3*4=14", 1);
        rule("2*3+4=10", 1);
        rule("10-3-2=5", 1);
        rule("100/10/5=2", 1);
        rule("2*(3+4)=14", 1);
        rule("not 0=1", 1);
        rule("(not 0)=1", 1);
        rule("(not 7)=0", 1);
        rule("not 1 or 1", 1);
        rule("not (1 or 1)", 0);
        rule("1 or 0 and 0", 1);
        rule("(1 or 0) and 0", 0);
        rule("not 0 and 0", 0);
        rule("(5 and 3)=1", 1);
        rule("(5 or 0)=1", 1);
        rule("5 and 0", 0);
        rule("0 or 0", 0);
        rule("3>3", 0);
        rule("3<3", 0);
        rule("999*1000*1000*1000+1000*1000*1000", 1);
        rule("0-999*1000*1000*1000-1000*1000*1000", 1);
        rule("(2<3)+(2<=2)+(2=2)+(2<>3)+(3>=3)+(3>2)=6", 1);
        rule("(3<2)+(3<=2)+(3=2)+(2<>2)+(2>=3)+(2>3)=0", 1);
        rule("1/0", 0);
        rule("1 or 1/0", 0);
        rule("not (1/0)", 0);
        rule("not (0 and 1/0)", 0);
        rule("1000*1000*1000*1000", 1);
        rule("1000*1000*1000*1000+1", 0);
        rule("1+1000*1000*1000*1000-1", 0);
        rule("0-1000*1000*1000*1000", 1);
        rule("0-1000*1000*1000*1000-1", 0);
        rule("(0-1000*1000*1000)*1000", 1);
        rule("(0-1000*1000*1000)*1001", 0);
        rule("1001*(0-1000*1000*1000)", 0);
        rule("9999*9999*9999*9999*9999*9999*9999*9999", 0);
        rule("not (9999*9999*9999*9999)", 0);
        rule("0*(1000*1000*1000*1000)=0", 1);
        // 2 to the 64 wraps around to 0.
        rule("4096*4096*256*(4096*4096*256)=0", 0);
    }

    private static void lumpsAndUnit() {
        YardRings x = told("land l;ring a l" + SQUARE + ";ring b l stone 10 0 stone 0 10 stone -10 0 stone 0 -10;ring c l;grid 0 1;");
        due("lumps of 1000", x.lumps(1000), 0);
        due("lumps of 3000: 1000 and 1000", x.lumps(3000), 2666);
        due("lumps of 7000: 1000 and 2000", x.lumps(7000), 571 + 1142);
        due("unit below", x.lumps(99), -1);
        due("unit above", x.lumps(10000), -1);
        due("best unit", x.unit(3000, 7000, 1000, 0), 5000);
        due("its lumps: 0 and 2000", x.unit(3000, 7000, 1000, 1), 1600);
        due("how many", x.unit(3000, 7000, 1000, 2), 5);
        due("of several the least", x.unit(400, 2000, 100, 0), 400);
        due("the last one counts", x.unit(3000, 4999, 1999, 2), 2);
        due("the last one is not reached", x.unit(3000, 4998, 1999, 2), 1);
        due("one unit", x.unit(9999, 9999, 9999, 0), 9999);
        due("a above b", x.unit(200, 199, 1, 0), -1);
        due("a below", x.unit(99, 200, 1, 0), -1);
        due("b above", x.unit(9000, 10000, 1, 0), -1);
        due("c below", x.unit(100, 200, 0, 0), -1);
        due("c above", x.unit(100, 200, 10000, 0), -1);
        due("1000 units", x.unit(100, 1099, 1, 2), 1000);
        due("1001 units", x.unit(100, 1100, 1, 2), -1);
        due("no such what", x.unit(100, 200, 1, 3), -1);
        due("no such what", x.unit(100, 200, 1, -1), -1);
        x.mode(0, true);
        due("lumps by halves of 3000: 500 and 500", x.lumps(3000), 2666);
        due("lumps by halves of 7000: 1000 and 1500", x.lumps(7000), 1142 + 1714);
        due("best unit by halves", x.unit(3000, 7000, 1000, 0), 4000);
    }

    private static void odds() {
        String text = "land l;ring a l" + SQUARE + ";grid 0 1;";
        YardRings x = told(text);
        due("one at least", x.odds(3000, 1), 250333333);
        due("none at least: cut twice", x.odds(3000, 0), 999999999);
        due("more than rings", x.odds(3000, 2), -1);
        due("below none", x.odds(3000, -1), -1);
        due("unit below", x.odds(99, 0), -1);
        due("unit above", x.odds(10000, 0), -1);
        x.mode(0, true);
        // Of 1500 places those with 8 OFF at most 3000: OFF 0 .. 375, so 376 and 375.
        due("by halves", x.odds(3000, 1), 500666666);
        due("no rings", new YardRings().odds(100, 0), 1000000000);
        due("no rings, one at least", new YardRings().odds(100, 1), -1);
        due("a rule that never holds", told(text + "near 0;").odds(100, 1), 0);
        due("a rule that always holds", told(text + "near 1;").odds(100, 1), 1000000000);
        due("errors are not near: off 1 alone", told(text + "near 1/off;").odds(100, 1), 20000000);
        due("times goes with the size: 20000 .. 20050", told(text + "near times=200;").odds(100, 1), 510000000);
        due("size: 20000 .. 20029", told(text + "near size<2003*10;").odds(100, 1), 300000000);
        due("all sizes are from the ring's own whole one", told(text + "near size<20*1000;").odds(100, 1), 0);
        // 20000 by 300 leaves 200: the places are of sizes 19800 .. 20099.
        due("a size that isn't whole", told(text + "near size<2001*10;").odds(300, 1), 700000000);
        YardRings y = told("land l;ring a l" + SQUARE + ";ring b l" + SQUARE + ";ring c l;grid 0 1;near size<801*25;");
        due("both", y.odds(100, 2), 62500000);
        due("one at least", y.odds(100, 1), 437500000);
        due("none at least", y.odds(100, 0), 1000000000);
        due("three", y.odds(100, 3), -1);
    }

    private static int drawnBelow(long seed, int draws, int sway, int size, int unit, int most) {
        long last = seed;
        int many = 0;
        for (int i = 0; i < draws; i++) {
            last = (last * 1103515245L + 12345L) % (1L << 31);
            long swayed = Math.max(0, size + last / 65536 % (2L * sway + 1) - sway);
            long rest = swayed % unit;
            many += 4000 * Math.min(rest, unit - rest) / unit <= most ? 1 : 0;
        }
        return many;
    }

    private static void any() {
        YardRings x = told("land l;ring a l" + SQUARE + ";grid 0 1;");
        due("one unit", x.any(3000, 3000, 1, 1500, 1, 50), drawnBelow(1, 50, 1500, 20000, 3000, 1333));
        due("another seed", x.any(3000, 3000, 1, 1500, 2147483647, 50), drawnBelow(2147483647L, 50, 1500, 20000, 3000, 1333));
        due("by hand: 16838, 5758, 10113 modulo 3001 less 1500", x.any(3000, 3000, 1, 1500, 1, 3), 2);
        due("a unit that is whole", x.any(4000, 4000, 1, 2000, 1, 50), drawnBelow(1, 50, 2000, 20000, 4000, 0));
        due("no sway", x.any(3000, 3990, 10, 0, 0, 50), 50);
        due("sizes below 0 are 0", told("land l;ring a l stone 0 0 stone 0 0 stone 0 0;grid 0 1;").any(9999, 9999, 1, 9999, 5, 50),
            drawnBelow(5, 50, 9999, 0, 9999, 0));
        due("by a small unit too", told("land l;ring a l stone 0 0 stone 0 0 stone 0 0;grid 0 1;").any(100, 100, 1, 9999, 5, 50),
            drawnBelow(5, 50, 9999, 0, 100, 0));
        yes("some are below 0", drawnBelow(5, 50, 9999, 0, 100, 0) > 10);
        due("100 units", x.any(100, 199, 1, 0, 0, 1), 1);
        due("101 units", x.any(100, 200, 1, 0, 0, 1), -1);
        due("no draws", x.any(100, 199, 1, 0, 0, 0), -1);
        due("51 draws", x.any(100, 199, 1, 0, 0, 51), -1);
        due("sway below", x.any(100, 199, 1, -1, 0, 1), -1);
        due("sway above", x.any(100, 199, 1, 10000, 0, 1), -1);
        due("the greatest sway", x.any(100, 100, 1, 9999, 0, 1), 1 - (drawnBelow(0, 1, 9999, 20000, 100, 0) == 0 ? 1 : 0));
        due("seed below", x.any(100, 199, 1, 0, -1, 1), -1);
        due("no units", x.any(99, 199, 1, 0, 0, 1), -1);
        due("no units", x.any(200, 199, 1, 0, 0, 1), -1);
        due("no units", x.any(100, 199, 0, 0, 0, 1), -1);
        due("no rings", new YardRings().any(100, 199, 1, 0, 0, 7), 7);
    }

    private static void chosen() {
        // Sizes: round 20000, flattened 21650, eggs 18750.
        String text = "land l;ring a l" + SQUARE + ";ring b l;grid 0 1;";
        YardRings x = told(text + "slack 5000;");
        due("an egg is whole by 6250", x.chosen(6250, 0), 0);
        due("it isn't the best", x.chosen(6250, 1), 1);
        due("round is whole by 4000", x.chosen(4000, 0), 0);
        due("it is the best", x.chosen(4000, 1), 0);
        due("by 2165 flattened is whole", told(text + "slack 4950;").chosen(2165, 0), 0);
        due("flattened isn't as well", told(text + "slack 4949;").chosen(2165, 0), 4000 * 515 / 2165);
        YardRings y = told(text + "slack 0;");
        due("the best alone", y.chosen(6250, 0), 4000 * 1250 / 6250);
        due("no other", y.chosen(6250, 1), 0);
        due("unit below", y.chosen(99, 0), -1);
        due("unit above", y.chosen(10000, 0), -1);
        due("no such what", y.chosen(100, 2), -1);
        due("no such what", y.chosen(100, -1), -1);
        // By 1250 an egg (15 times) and round (16 times) are both whole: the first counts.
        due("of several the first", x.chosen(1250, 1), 0);
    }

    private static void tellsAndHump() {
        String rings = "land l;ring a l" + SQUARE + ";ring b l stone 10 0 stone 0 10 stone -10 0 stone 0 -10;ring c l;grid 0 1;";
        YardRings x = told(rings + "way rod 2 3 0 0 0 6 5;way eye 3 1 1 1 1 1 1;way rope 1 0 0 0 0 0 0;");
        // By 3000 both are off 1000: 12 times that by 3000 is 4.
        due("rod: 2 by 6 by 6", x.tells(0, 3000, 0), 24);
        due("of all: 72 and 3", x.tells(0, 3000, 1), 25);
        due("eye", x.tells(1, 3000, 0), 1);
        due("eye, below", x.tells(1, 3000, 1), 25);
        due("rope", x.tells(2, 3000, 0), 0);
        due("rope, below", x.tells(2, 3000, 1), 1);
        due("no such way", x.tells(3, 3000, 0), -1);
        due("no such way", x.tells(-1, 3000, 0), -1);
        due("unit below", x.tells(0, 99, 0), -1);
        due("unit above", x.tells(0, 10000, 0), -1);
        due("no such what", x.tells(0, 100, 2), -1);
        due("no such what", x.tells(0, 100, -1), -1);
        due("hump", x.hump(3000, 4), 2);
        due("hump of another bin", x.hump(3000, 3), 0);
        due("hump of whole ones", x.hump(1000, 0), 2);
        due("5 at most: 20000 by 1600 is off 800", x.hump(1600, 5), 1);
        due("2000 by 1600 is off 400", x.hump(1600, 3), 1);
        due("no such bin", x.hump(1000, 6), -1);
        due("no such bin", x.hump(1000, -1), -1);
        due("unit below", x.hump(99, 0), -1);
        due("unit above", x.hump(10000, 0), -1);
        YardRings y = told(rings + "way none 9 0 0 0 0 0 0;");
        due("0 by 0", y.tells(0, 3000, 0), 0);
        due("0 by 0", y.tells(0, 3000, 1), 0);
        YardRings z = told("way a 6 1 1 1 1 1 1;way b 9 1 1 1 1 1 1;");
        due("weights alone", z.tells(0, 3000, 0), 2);
        due("weights alone, below", z.tells(0, 3000, 1), 5);
        StringBuilder eight = new StringBuilder("land l;grid 0 1;");
        for (char name = 'a'; name < 'i'; name++) {
            eight.append("ring ").append(name).append(" l stone 0 0 stone 0 0 stone 0 0;");
        }
        eight.append("way a 99 99 0 0 0 0 0;way b 98 99 0 0 0 0 0;way c 1 1 0 0 0 0 0;way d 99 99 0 0 0 0 0;way e 99 99 0 0 0 0 0;");
        YardRings w = told(eight.toString());
        long power = 99L * 99 * 99 * 99 * 99 * 99 * 99 * 99;
        due("the greatest numbers", w.tells(2, 100, 1), 395 * power + 1);
        due("the last way", w.tells(0, 100, 0), 99 * power);
        w.mode(0, true);
        due("hump by halves", w.hump(3001, 0), 8);
    }

    // ---- 26 to 34

    private static void wander() {
        YardRings x = told("land l;land m;land n;ring a l" + SQUARE + ";ring b m stone 10 0 stone 0 10 stone -10 0 stone 0 -10;"
            + "ring c m;grid 0 1;");
        due("of all: 1000 by 7 and by 1", x.wander(3000, -1), 1000);
        due("of a land", x.wander(3000, 0), 143);
        due("of the other", x.wander(3000, 1), 1000);
        due("of a land without rings", x.wander(3000, 2), 0);
        due("times 0 does not count", x.wander(5000, 1), 0);
        due("whole", x.wander(1000, -1), 0);
        due("no such land", x.wander(3000, 3), -2);
        due("no such land", x.wander(3000, -2), -2);
        due("unit below", x.wander(99, -1), -2);
        due("unit above", x.wander(10000, -1), -2);
        due("without rings", new YardRings().wander(100, -1), 0);
        x.mode(0, true);
        due("by halves: twice 500 by 13", x.wander(3000, 0), 77);
        due("by halves: twice 500 by 1", x.wander(3000, 1), 1000);
    }

    private static void lands() {
        YardRings x = told("land l;land m;land n;ring a l" + SQUARE + ";ring b m stone 15 0 stone 0 15 stone -15 0 stone 0 -15;"
            + "ring c n stone 1 1;grid 0 1;");
        due("best unit of l", x.land(0, 2000, 3000, 500), 2000);
        due("best unit of m", x.land(1, 2000, 3000, 1000), 3000);
        due("no fit in n", x.land(2, 2000, 3000, 1000), -1);
        due("no such land", x.land(3, 2000, 3000, 1000), -1);
        due("no such land", x.land(-1, 2000, 3000, 1000), -1);
        due("no units", x.land(0, 3000, 2000, 1), -1);
        due("no units", x.land(0, 100, 1100, 1), -1);
        due("1000 units", x.land(0, 1000, 1999, 1), 1000);
        due("apart", x.apart(2000, 3000, 1000), 1000);
        due("not apart", x.apart(1000, 1000, 1), 0);
        due("no units", x.apart(99, 100, 1), -1);
        due("no units", x.apart(100, 1100, 1), -1);
        due("no land has one", told("land l;ring a l;").apart(100, 200, 1), -1);
        due("1000 units", x.apart(1000, 1999, 1), x.land(1, 1000, 1999, 1) - 1000);
        due("the last land", told("land l;land m;ring a m" + SQUARE + ";grid 0 1;").land(1, 3000, 4000, 1000), 4000);
        due("one land has", told("land l;land m;ring a m" + SQUARE + ";").apart(100, 200, 1), 0);
    }

    private static void sort() {
        YardRings x = told("land l;ring a l" + SQUARE + ";ring b l stone 75 0 stone 0 100 stone -100 0 stone 0 -100;"
            + "ring c l;grid 7 1;");
        due("round ones", x.sort(0, 3000, 1), 1);
        due("their lumps", x.sort(0, 3000, 0), 1333);
        due("flattened ones", x.sort(1, 3000, 1), 1);
        due("their lumps", x.sort(1, 3000, 0), 1333);
        due("all lumps", x.lumps(3000), 2666);
        due("eggs", x.sort(2, 3000, 1), 0);
        due("lumps of none", x.sort(2, 3000, 0), 0);
        due("no such sort", x.sort(3, 3000, 0), -1);
        due("no such sort", x.sort(-1, 3000, 0), -1);
        due("unit below", x.sort(0, 99, 0), -1);
        due("unit above", x.sort(0, 10000, 0), -1);
        due("no such what", x.sort(0, 100, 2), -1);
        due("no such what", x.sort(0, 100, -1), -1);
    }

    private static void blindAndLean() {
        YardRings x = told("land l;ring a l" + SQUARE + ";ring b l;grid 0 1;said kim a 20100 blind;said kim b 30000;said jo a 19000;"
            + "said kim a 20000;said al b 100 blind;");
        due("off of those blind: 100 and 100", x.blind(4000, 0), 200);
        due("how many", x.blind(4000, 1), 2);
        due("off of the others: 2000, 1000, 0", x.blind(4000, 2), 3000);
        due("how many", x.blind(4000, 3), 3);
        due("no such what", x.blind(4000, 4), -1);
        due("no such what", x.blind(4000, -1), -1);
        due("unit below", x.blind(99, 0), -1);
        due("unit above", x.blind(10000, 0), -1);
        due("kim: 100 and 0 by 2, b has no fit", x.lean(0, 0), 50);
        due("in least terms", x.lean(0, 1), 1);
        due("jo", x.lean(1, 0), -1000);
        due("jo by one", x.lean(1, 1), 1);
        due("al has none with a fit", x.lean(2, 0), 0);
        due("0 by 0", x.lean(2, 1), 0);
        due("no such measurer", x.lean(3, 0), NO);
        due("no such measurer", x.lean(-1, 0), NO);
        due("no such what", x.lean(0, 2), NO);
        due("no such what", x.lean(0, -1), NO);
        x.mode(0, true);
        due("blind by halves: 100 and 100", x.blind(4000, 0), 200);
        due("others by halves: 0, 1000, 0", x.blind(4000, 2), 1000);
        YardRings y = told("land l;ring a l" + SQUARE + ";grid 0 1;said k a 20001;said k a 20002;said k a 20001;said z a 20000;");
        due("4 by 3", y.lean(0, 0), 4);
        due("4 by 3, below", y.lean(0, 1), 3);
        due("0 by 1", y.lean(1, 0), 0);
        due("0 by 1, below", y.lean(1, 1), 1);
    }

    private static void ahead() {
        YardRings x = told("land l;ring a l" + SQUARE + ";ring b l stone 15 0 stone 0 15;ring c l stone 9 0 stone 0 9 stone -9 0 "
            + "stone 0 -9;grid 0 1;");
        due("no notes: the unit of all", x.ahead(0, 4000, 5000, 1000, 0), 5000);
        due("none taped since", x.ahead(0, 4000, 5000, 1000, 2), 0);
        due("n above", x.ahead(1, 4000, 5000, 1000, 0), -1);
        due("n below", x.ahead(-1, 4000, 5000, 1000, 0), -1);
        // Ring c from 1800 to 2000: by 4000 off 2000, by 1000 whole.
        x.tape(2, 0, 10, 0);
        x.tape(2, 1, 0, 10);
        x.tape(2, 2, -10, 0);
        x.tape(2, 3, 0, -10);
        due("the unit then: 20000 and 1800 by 900", x.ahead(0, 900, 1000, 100, 0), 1000);
        due("one has another size", x.ahead(0, 900, 1000, 100, 2), 1);
        due("and is near", x.ahead(0, 900, 1000, 100, 1), 1);
        due("by 4000 it isn't", x.ahead(0, 4000, 4000, 1, 1), 0);
        due("of one", x.ahead(0, 4000, 4000, 1, 2), 1);
        due("all known: none since", x.ahead(4, 900, 1000, 100, 2), 0);
        x.known(0);
        due("as known now", x.ahead(4, 900, 1000, 100, 2), 1);
        due("1800 is not near 1000", x.ahead(4, 1000, 1000, 1, 1), 0);
        x.known(-1);
        x.gone(0, 0, true);
        x.gone(0, 1, true);
        due("a fit that is gone now does not count", x.ahead(4, 900, 1000, 100, 2), 0);
        x.strike(5);
        x.strike(4);
        due("one that had no fit then", x.ahead(6, 4000, 4000, 1, 2), 1);
        due("is near", x.ahead(6, 4000, 4000, 1, 1), 1);
        due("no rings then but c", x.ahead(6, 2000, 2100, 50, 0), 2000);
        due("no such what", x.ahead(0, 900, 1000, 100, 3), -1);
        due("no such what", x.ahead(0, 900, 1000, 100, -1), -1);
        due("no units", x.ahead(0, 1000, 900, 100, 0), -1);
        due("no units", x.ahead(0, 100, 1100, 1, 0), -1);
        due("1000 units: 20000 is off 2 and 1800 off 18", x.ahead(0, 1000, 1999, 1, 0), 1818);
        YardRings y = told("land l;ring a l stone -10 0 stone 10 0 stone 5 5;grid 0 1;");
        y.tape(0, 0, -20, 0);
        y.tape(0, 1, 20, 0);
        y.tape(0, 2, 7, 5);
        due("another by x alone", y.ahead(0, 100, 200, 1, 2), 1);
        YardRings z = told("land l;ring a l stone 0 -10 stone 0 10 stone 5 5;grid 0 1;");
        z.tape(0, 0, 0, -20);
        z.tape(0, 1, 0, 20);
        z.tape(0, 2, 5, 7);
        due("another by y alone", z.ahead(0, 100, 200, 1, 2), 1);
        z.tape(0, 0, 0, -10);
        z.tape(0, 1, 0, 10);
        z.tape(0, 2, 5, 5);
        due("the same size again does not count", z.ahead(0, 100, 200, 1, 2), 0);
        due("nothing at all", new YardRings().ahead(0, 700, 900, 100, 0), 700);
    }

    private static void next() {
        String small = " stone 10 0 stone 0 10 stone -10 0 stone 0 -10";
        String grid = "grid 0 1;slack 9999;";
        due("no ring has a fit", told("land l;ring a l;ring b l stone 1 1;").next(), -1);
        due("the widest", told("land l;ring a l;ring b l" + small + ";ring c l" + SQUARE + ";" + grid).next(), 2);
        due("of several the first", told("land l;ring b l" + small + ";ring c l" + small + ";" + grid).next(), 0);
        YardRings x = told("land l;ring b l" + small + ";ring c l" + SQUARE + ";" + grid);
        due("the widest now", x.next(), 1);
        x.gone(1, 0, true);
        x.gone(1, 1, true);
        due("without a fit it isn't asked for", x.next(), 0);
        due("a great ring with a narrow span", told("land l;ring a l stone 900 0 stone 0 900 stone -900 0 stone 0 -900;ring b l"
            + small + ";" + grid).next(), 1);
        due("a span of nothing counts too", told("land l;ring a l;ring b l" + SQUARE + ";grid 0 1;slack 0;").next(), 1);
    }

    private static void count() {
        YardRings x = told("land l;land m;ring a l" + SQUARE + ";ring b l;ring c l;way w 1 1 1 1 1 1 1;said k a 1;said j a 1;said k a 2;"
            + "said k b 3;near off<5;grid 3 7;slack 11;");
        x.gone(1, 0, true);
        x.gone(0, 0, true);
        x.gone(0, 0, false);
        x.known(1);
        x.mode(2, true);
        int[] due = {2, 3, 1, 4, 2, 2, 1, 3, 3, 7, 11, 2, 1, 1};
        for (int what = 0; what < due.length; what++) {
            due("count(" + what + ")", x.count(what), due[what]);
        }
        due("count(14)", x.count(14), -1);
        due("count(-1)", x.count(-1), -1);
    }
}
