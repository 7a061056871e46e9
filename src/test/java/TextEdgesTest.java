/** The boundary cases of promises 1 to 5 and of the TEXT, its LINES and FAULTS: one test for each sentence of the document. */
public final class TextEdgesTest extends Checks {
    private static final String RING = "land l;ring a l";
    private static final String[] LANGUAGE = ("land ring stone lean again gone way near said blind grid slack or and not off unit size "
        + "times stones sort").split(" ");

    public static void main(String[] args) {
        newObject();
        feedPutsTheHighestByteFirst();
        feedTellsHowMany();
        feedBeyondTheTape();
        textEmptiesTheTape();
        textOfNothing();
        textOfAWholeTape();
        textTellsAnew();
        textWithAFault();
        textOfTooMany();
        faultOfTheLatest();
        faultOfAnotherWhat();
        namedByLetters();
        namedOfNone();
        linesEndWithASemicolon();
        everyByte();
        wordsOfLetters();
        wordsOfTheLanguage();
        numbersOfStones();
        numbersOfWays();
        numbersOfSayings();
        numbersOfGridAndSlack();
        numbersOfRules();
        untoldGridAndSlack();
        untoldLean();
        namesOfTheirKind();
        measurersAsTheyAreFirstSaid();
        tooManyLands();
        tooManyRings();
        tooManyStones();
        tooManyWays();
        tooManySayings();
        tooManyMeasurers();
        tooManyOpen();
        tooManyKnots();
        toldAlready();
        notToldAhead();
        moreMustCome();
        tokensThatCantStand();
        signsOfTwo();
        theFirstAlongTheText();
        ofOnePlaceTheLeast();
        readingAfterAFault();
        end();
    }

    // ---- promises 1 to 5

    private static void newObject() {
        says("No TEXT, NOTES; MODE 0, no HALVES; an empty TAPE.");
        YardRings x = new YardRings();
        int[] counts = {0, 0, 0, 0, 0, 0, 0, 0, 4, 6, 300, 0, 0, 0};
        for (int what = 0; what < counts.length; what++) {
            due("count(" + what + ")", x.count(what), counts[what]);
        }
        due("the tape has not one byte", x.text(1), -2);
        due("no fault yet", x.fault(0), 0);
        due("no place yet", x.fault(1), -1);
        for (int what = 0; what < 4; what++) {
            due("nothing is named " + what, x.named(what, letters("a")), -1);
        }
        due("no stone", looked(x, 0, 0, 0), NO_INDEX);
        due("no ring", x.about(0, 1), -1);
        due("no note", x.strike(0), -1);
        yes("known by none", x.known(0));
        no("not by one", x.known(1));
        due("whole units", x.whole(1600, 1000, 0), 400);
        due("the first twenty bytes", x.feed(0, 0, 0, 0, 0), 20);
    }

    private static void feedPutsTheHighestByteFirst() {
        says("Twenty bytes come behind the TAPE, four of each number, the highest first");
        for (int place = 0; place < 20; place++) {
            for (int other = 0; other < 3; other++) {
                YardRings x = new YardRings();
                // Two feeds of blanks, one of them with a byte that no text can have.
                for (int feed = 0; feed < 2; feed++) {
                    int[] n = {0x20202020, 0x20202020, 0x20202020, 0x20202020, 0x20202020};
                    if (other == 2 || feed == other) {
                        n[place / 4] |= 0xdf << (24 - 8 * (place % 4));
                    }
                    x.feed(n[0], n[1], n[2], n[3], n[4]);
                }
                due("a byte 255 on the tape", x.text(40), -1);
                due("its place", x.fault(1), other == 1 ? 20 + place : place);
            }
        }
    }

    private static void feedTellsHowMany() {
        says("how many it has; NONE, and none come, if it would have more than 900");
        YardRings x = new YardRings();
        for (int feeds = 1; feeds <= 45; feeds++) {
            due("feed " + feeds, x.feed(-1, -1, -1, -1, -1), 20 * feeds);
        }
        due("a feed to 920", x.feed(0, 0, 0, 0, 0), -1);
        due("and once more", x.feed(0, 0, 0, 0, 0), -1);
        due("901 are not there", x.text(901), -2);
        due("900 are", x.text(900), -1);
        due("twenty behind none", x.feed(0, 0, 0, 0, 0), 20);
    }

    private static void feedBeyondTheTape() {
        says("NONE, and none come, if it would have more than 900");
        YardRings x = new YardRings();
        feed(x, times(" ", 880) + "land a;" + times("\n", 12) + ";");
        due("a feed of others", x.feed(-1, -1, -1, -1, -1), -1);
        due("what came before is read", x.text(900), -1);
        due("up to its last byte", x.fault(1), 899);
        feed(x, times(" ", 880) + "land a;" + times("\n", 13));
        due("a feed of others", x.feed(-1, -1, -1, -1, -1), -1);
        due("what came before is read", x.text(900), 1);
        due("the land", x.named(0, letters("a")), 0);
    }

    private static void textEmptiesTheTape() {
        says("The TAPE's first n bytes (it is empty then) are the TEXT");
        YardRings x = new YardRings();
        feed(x, "land a;land b;");
        due("the first bytes", x.text(7), 1);
        due("one land", x.count(0), 1);
        due("no bytes are left", x.text(1), -2);
        due("the next bytes are the first", x.feed(0x6c616e64, 0x20633b23, 0, 0, 0), 20);
        due("they are the text", x.text(7), 1);
        due("land c", x.named(0, letters("c")), 0);
        feed(x, "oops;");
        due("a fault", x.text(5), -1);
        due("no bytes are left by a fault either", x.text(1), -2);
        due("a feed", x.feed(0, 0, 0, 0, 0), 20);
        due("a byte less than a line", tell(new YardRings(), "land a"), -1);
    }

    private static void textOfNothing() {
        says("The TAPE's first n bytes (it is empty then) are the TEXT (no NOTES then, all KNOWN): how many LINES");
        YardRings x = told(RING + SQUARE + ";");
        x.gone(0, 0, true);
        feed(x, "land b;");
        due("text(0)", x.text(0), 0);
        due("no lands", x.count(0), 0);
        due("no rings", x.count(1), 0);
        due("no notes", x.count(5), 0);
        due("no bytes are left", x.text(1), -2);
        due("text(0) of an empty tape", x.text(0), 0);
        due("blanks alone", tell(x, " \n \n"), 0);
    }

    private static void textOfAWholeTape() {
        says("The TAPE's first n bytes (it is empty then) are the TEXT: how many LINES");
        String end = ";slack 12;";
        String all = "land a" + times(" ", 900 - 6 - end.length()) + end;
        YardRings x = new YardRings();
        due("900 bytes", tell(x, all), 2);
        due("its last line", x.count(10), 12);
        feed(x, all);
        due("899 of them", x.text(899), -1);
        due("more must come", x.fault(1), 899);
        StringBuilder lines = new StringBuilder("land l;ring a l;near 1;grid 1 1;slack 1;");
        for (int i = 0; i < 20; i++) {
            lines.append("said k a 1;");
        }
        due("25 lines", tell(x, lines.toString()), 25);
    }

    private static void textTellsAnew() {
        says("are the TEXT (no NOTES then, all KNOWN)");
        String first = "land l;land m;ring a l" + SQUARE + ";ring b m stone 1 2 lean 3 4 again gone;way v 1 2 3 4 5 6 7;way w 7 6 5 4 3 2 1;"
            + "said k a 1 blind;said j a 2;near off<1 and 1;grid 2 3;slack 5;";
        String second = "land z;ring y z stone 5 6 stone 7 8;";
        YardRings x = told(first);
        for (int i = 0; i < 6; i++) {
            // What a text told one or two texts ago must not come back either.
            boolean isSecond = i % 3 < 2;
            x.gone(0, 0, true);
            x.gone(0, 0, true);
            yes("known by one", x.known(1));
            due("the next text", tell(x, isSecond ? second : first), isSecond ? 2 : 11);
            int[] counts = {1, 1, 0, 0, 0, 0, 0, 0, 4, 6, 300, 0, 0, 0};
            int[] again = {2, 2, 2, 2, 2, 0, 0, 5, 2, 3, 5, 0, 0, 1};
            for (int what = 0; what < counts.length; what++) {
                due("count(" + what + ") by it", x.count(what), isSecond ? counts[what] : again[what]);
            }
            due("land l", x.named(0, letters("l")), isSecond ? -1 : 0);
            due("ring b", x.named(1, letters("b")), isSecond ? -1 : 1);
            due("way w", x.named(2, letters("w")), isSecond ? -1 : 1);
            due("measurer j", x.named(3, letters("j")), isSecond ? -1 : 1);
            for (int what = 2; what < 6; what++) {
                due("look(0, 1, " + what + ")", looked(x, 0, 1, what), 0);
            }
            due("those that stand", x.about(0, 2), isSecond ? 2 : 4);
            due("a note", x.tape(0, 0, 9, 9), 0);
            due("is known, for all are", looked(x, 0, 0, 0), 9);
        }
        String ways = "way v 1 2 3 4 5 6 7;way w 7 6 5 4 3 2 1;";
        for (int i = 0; i < 4; i++) {
            due("two ways, then one", tell(x, i < 2 ? ways : "way v 1 2 3 4 5 6 7;"), i < 2 ? 2 : 1);
            due("by the weights of all", x.tells(0, 100, 1), i < 2 ? 8 : 1);
        }
        String leaning = RING + times(" stone 1 2 lean 3 4 again gone", 3) + ";";
        for (int i = 0; i < 4; i++) {
            due("leaning stones", tell(x, i < 2 ? leaning : RING + times(" stone 5 6", 3) + ";"), 2);
            for (int what = 2; what < 6; what++) {
                due("look(0, 2, " + what + ")", looked(x, 0, 2, what), i < 2 ? what < 4 ? what + 1 : 1 : 0);
            }
        }
        due("nothing", x.text(0), 0);
        due("a ring without stones", tell(x, RING + ";"), 2);
        due("has none", x.about(0, 1), 0);
    }

    private static void textWithAFault() {
        says("NONE with a FAULT, all stays");
        String text = RING + SQUARE + ";ring b l stone 1 2 lean 3 4 again gone;way l 9 1 2 3 4 5 6;said l a 20100 blind;near off<1001;"
            + "grid 1 2;slack 7;";
        String[] wrong = {"land x;land y;ring c x stone 9 9;way z 1 1 1 1 1 1 1;said q c 9;near 0;grid 3 3;slack 3;oops;", "land x", "#",
            "land x;land x;", "ring q q;", "grid 0 1;slack 10000;"};
        for (String other : wrong) {
            YardRings x = told(text);
            x.tape(0, 0, 90, 0);
            x.gone(0, 1, true);
            x.gone(0, 2, true);
            x.known(1);
            x.mode(2, true);
            String before = all(x);
            due("a text with a fault", tell(x, other), -1);
            yes("it has one", x.fault(0) > 0 && x.fault(1) >= 0);
            String after = all(x);
            same("after " + other, withoutFault(after), withoutFault(before));
        }
    }

    private static String withoutFault(String all) {
        return all.replaceFirst(" fault -?\\d+ -?\\d+", "");
    }

    private static void textOfTooMany() {
        says("-2, and the TAPE stays: there are not so many, n is below 0");
        YardRings x = told(RING + SQUARE + ";");
        x.gone(0, 0, true);
        feed(x, "land a;land b;slack 1");
        String before = all(x);
        for (int n : new int[] {41, 60, 901, MAX, -1, -2, NO}) {
            due("text(" + n + ") of 40 bytes", x.text(n), -2);
        }
        same("after that", all(x), before);
        due("twenty more", x.feed(0x3b202020, 0x20202020, 0x20202020, 0x20202020, 0x20202020), 60);
        due("text(61) of 60 bytes", x.text(61), -2);
        // The bytes '#' that filled up the first forty are still where they were.
        due("all sixty", x.text(60), -1);
        due("up to there", x.fault(1), 21);
        feed(x, "land a;land b;land c");
        due("text(21) of 20 bytes", x.text(21), -2);
        due("text(20)", x.text(20), -1);
        due("all of them were read", x.fault(1), 20);
        feed(x, "land a;land b;land c");
        due("text(-1)", x.text(-1), -2);
        due("text(14)", x.text(14), 2);
    }

    private static void faultOfTheLatest() {
        says("Of the latest text() that was not -2, what 0: its FAULT (0), 1: its place (NONE without)");
        YardRings x = new YardRings();
        due("none", x.fault(0), 0);
        due("none", x.fault(1), -1);
        x.text(1);
        due("none by -2", x.fault(0), 0);
        due("none by -2", x.fault(1), -1);
        tell(x, "land a;land a;");
        due("told already", x.fault(0), 3);
        due("at", x.fault(1), 12);
        x.text(1);
        x.text(-1);
        due("as before by -2", x.fault(0), 3);
        due("as before by -2", x.fault(1), 12);
        tell(x, ";");
        due("another one", x.fault(0), 1);
        due("at the first place", x.fault(1), 0);
        tell(x, "land a;");
        due("none any more", x.fault(0), 0);
        due("none any more", x.fault(1), -1);
        x.text(1);
        due("still none", x.fault(0), 0);
        due("still none", x.fault(1), -1);
    }

    private static void faultOfAnotherWhat() {
        says("NONE for another what");
        YardRings x = new YardRings();
        tell(x, "land a;land a;");
        for (int what : new int[] {-1, 2, 3, MAX, NO}) {
            due("fault(" + what + ")", x.fault(what), -1);
        }
    }

    private static void namedByLetters() {
        says("by its letters, 5 bits each (a is 1; the first one highest of six, 0 behind the last one)");
        YardRings x = told("land a;land zzzzzz;land abcdef;land az;ring z a;ring a a;way zzzzz 1 1 1 1 1 1 1;said zz z 1;said a z 1;");
        due("a", x.named(0, 1 << 25), 0);
        due("zzzzzz", x.named(0, 26 << 25 | 26 << 20 | 26 << 15 | 26 << 10 | 26 << 5 | 26), 1);
        due("abcdef", x.named(0, 1 << 25 | 2 << 20 | 3 << 15 | 4 << 10 | 5 << 5 | 6), 2);
        due("az", x.named(0, 1 << 25 | 26 << 20), 3);
        due("ring z", x.named(1, 26 << 25), 0);
        due("ring a", x.named(1, 1 << 25), 1);
        due("way zzzzz", x.named(2, 26 << 25 | 26 << 20 | 26 << 15 | 26 << 10 | 26 << 5), 0);
        due("measurer zz", x.named(3, 26 << 25 | 26 << 20), 0);
        due("measurer a", x.named(3, 1 << 25), 1);
    }

    private static void namedOfNone() {
        says("NONE: there is none such");
        YardRings x = told("land a;land ab;ring r a;way w 1 1 1 1 1 1 1;said k r 1;");
        int a = letters("a");
        for (int what : new int[] {-1, 4, 5, MAX, NO}) {
            due("no such kind", x.named(what, a), -1);
        }
        for (int what = 0; what < 4; what++) {
            for (int none : new int[] {0, 1, -1, NO, MAX, letters("b"), letters("aa"), letters("abc"), a | 1, a | 1 << 30, a | NO, a << 5}) {
                due("no such letters " + none, x.named(what, none), -1);
            }
        }
        due("a land is no ring", x.named(1, a), -1);
        due("a ring is no land", x.named(0, letters("r")), -1);
        due("a way is no measurer", x.named(3, letters("w")), -1);
        due("a measurer is no way", x.named(2, letters("k")), -1);
    }

    // ---- tokens

    private static void linesEndWithASemicolon() {
        says("A TEXT: { LINE ';' }.");
        good("", 0);
        good("land a;", 1);
        good("land a;land b;", 2);
        bad("land a", 1, 6);
        bad("land a;land b", 1, 13);
        bad(";", 1, 0);
        bad("land a;;", 1, 7);
        bad("land a land b;", 1, 7);
    }

    private static void everyByte() {
        says("Words: small letters in a row; W: one of 1 .. 6 letters; N: digits. Blanks 10, 32.");
        for (int b = 0; b < 256; b++) {
            char c = (char) b;
            boolean letter = c >= 'a' && c <= 'z';
            if (c == ' ' || c == '\n') {
                good(String.valueOf(c), 0);
            } else {
                bad(String.valueOf(c), 1, 0);
            }
            if (c == ' ' || c == '\n' || letter) {
                good("land a" + c + ";", 1);
            } else if (c == ';') {
                bad("land a" + c + ";", 1, 7);
            } else {
                bad("land a" + c + ";", 1, 6);
            }
            if (c == ' ' || c == '\n' || c >= '0' && c <= '9') {
                good("slack 1" + c + ";", 1);
            } else {
                bad("slack 1" + c + ";", 1, c == ';' ? 8 : 7);
            }
        }
    }

    private static void wordsOfLetters() {
        says("W: one of 1 .. 6 letters; 1 a TOKEN that is none (a word of more than 6 letters, too)");
        good("land z;", 1);
        good("land zzzzzz;", 1);
        bad("land zzzzzzz;", 1, 5);
        bad("land " + times("z", 895), 1, 5);
        // Not the first six letters of it either.
        bad("land abcdef;ring r abcdefg;", 1, 19);
        bad("slackss 5;", 1, 0);
        bad("land5;", 1, 4);
        bad("land a5;", 1, 6);
        good("land\n\n a \n;", 1);
        bad("la nd a;", 1, 0);
    }

    private static void wordsOfTheLanguage() {
        says("W: one of 1 .. 6 letters, none of those of the language");
        for (String word : LANGUAGE) {
            bad("land " + word + ";", 1, 5);
            bad("land l;ring " + word + " l;", 1, 12);
            bad("land l;ring a " + word + ";", 1, 14);
            bad("way " + word + " 1 1 1 1 1 1 1;", 1, 4);
            bad(RING + ";said " + word + " a 1;", 1, 21);
            bad(RING + ";said k " + word + " 1;", 1, 23);
            if (word.length() < 6) {
                good("land " + word + "x;", 1);
            }
            good("land " + word.substring(0, word.length() - 1) + "x;", 1);
        }
    }

    // ---- numbers

    /** A number's edges at a place of a text: the last taken and the first refused on both sides, and those that wrap around. */
    private static void edges(String before, String behind, int least, int most) {
        int lines = (int) (before + behind).chars().filter(c -> c == ';').count();
        boolean signed = least < 0;
        good(before + least + behind, lines);
        good(before + most + behind, lines);
        good(before + "000000000000000000000" + most + behind, lines);
        bad(before + (most + 1) + behind, 2, before.length());
        if (signed) {
            bad(before + (least - 1) + behind, 2, before.length() + 1);
            good(before + "- " + -least + behind, lines);
            good(before + "-0" + behind, lines);
            bad(before + "--1" + behind, 1, before.length() + 1);
            bad(before + "- -1" + behind, 1, before.length() + 2);
        } else {
            bad(before + "-1" + behind, 1, before.length());
            bad(before + "-0" + behind, 1, before.length());
            if (least > 0) {
                bad(before + (least - 1) + behind, 2, before.length());
            }
        }
        bad(before + "+1" + behind, 1, before.length());
        bad(before + "x" + behind, 1, before.length());
        // By 32 and by 64 bits these would be 1, or the least int, or the greatest.
        for (String wraps : new String[] {"4294967297", "18446744073709551617", "2147483648", "2147483647", "9223372036854775809",
            "10000000000000000000000000000000000000001"}) {
            bad(before + wraps + behind, 2, before.length());
        }
    }

    private static void numbersOfStones() {
        says("x and y (inches, -999 .. 999), LEAN by x and y (-99 .. 99; 0 and 0 without)");
        edges(RING + " stone ", " 0;", -999, 999);
        edges(RING + " stone 0 ", ";", -999, 999);
        edges(RING + " stone 0 0 lean ", " 0;", -99, 99);
        edges(RING + " stone 0 0 lean 0 ", ";", -99, 99);
        edges(RING + " stone 1 1 stone 0 ", " stone 2 2;", -999, 999);
        YardRings x = told(RING + " stone -999 999 lean -99 99 stone 999 -999 lean 99 -99 stone - 0 -7 lean - 1 -0;");
        int[][] due = {{-999, 999, -99, 99}, {999, -999, 99, -99}, {0, -7, -1, 0}};
        for (int stone = 0; stone < 3; stone++) {
            for (int what = 0; what < 4; what++) {
                due("look(0, " + stone + ", " + what + ")", looked(x, 0, stone, what), due[stone][what]);
            }
        }
    }

    private static void numbersOfWays() {
        says("WAYS, at most 5: a WEIGHT 1 .. 99 and six BINS 0 .. 99");
        for (int i = 0; i < 7; i++) {
            edges("way w " + times("1 ", i), times(" 1", 6 - i) + ";", i == 0 ? 1 : 0, 99);
        }
        // Of one ring, off 0: the first bin's number counts.
        YardRings x = told(RING + SQUARE + ";grid 0 1;way v 99 99 1 1 1 1 1;way w 1 1 0 0 0 0 0;way u 1 0 99 99 99 99 99;");
        due("the greatest", x.tells(0, 1000, 0), 9801);
        due("of all", x.tells(0, 1000, 1), 9802);
        due("the least that tells", x.tells(1, 1000, 0), 1);
        due("nothing", x.tells(2, 1000, 0), 0);
    }

    private static void numbersOfSayings() {
        says("a size 1 .. 99999 (hundredths), BLIND or not");
        edges(RING + ";said k a ", ";", 1, 99999);
        edges(RING + ";said k a ", " blind;", 1, 99999);
        YardRings x = told(RING + ";said k a 1;said k a 99999 blind;");
        due("the least", x.blind(9999, 2), 1);
        due("the greatest: ten times 9999 and 9", x.blind(9999, 0), 9);
        due("blind ones", x.blind(9999, 1), 1);
        due("others", x.blind(9999, 3), 1);
    }

    private static void numbersOfGridAndSlack() {
        says("grid: G 0 .. 9 and H 1 .. 20; slack: 0 .. 9999");
        edges("grid ", " 1;", 0, 9);
        edges("grid 0 ", ";", 1, 20);
        edges("slack ", ";", 0, 9999);
        YardRings x = told("grid 0 20;slack 0;");
        due("G", x.count(8), 0);
        due("H", x.count(9), 20);
        due("slack", x.count(10), 0);
        tell(x, "grid 9 1;slack 9999;");
        due("G", x.count(8), 9);
        due("H", x.count(9), 1);
        due("slack", x.count(10), 9999);
    }

    private static void numbersOfRules() {
        says("N of E 0 .. 9999");
        edges("near ", ";", 0, 9999);
        edges("near 1+", ";", 0, 9999);
        edges("near (", ");", 0, 9999);
        edges("near not ", ";", 0, 9999);
        edges("near off<", " and 1;", 0, 9999);
        due("9999 as a value", told(RING + SQUARE + ";near 9999-9998=1;").near(100), 1);
        due("0 as a value", told(RING + SQUARE + ";near 0;").near(100), 0);
    }

    private static void untoldGridAndSlack() {
        says("grid: G 0 .. 9 and H 1 .. 20 (4 and 6 without). slack: 0 .. 9999 (300)");
        YardRings x = told("grid 1 2;");
        due("slack without", x.count(10), 300);
        tell(x, "slack 5;");
        due("G without", x.count(8), 4);
        due("H without", x.count(9), 6);
        due("slack", x.count(10), 5);
        tell(x, "land l;");
        due("slack without", x.count(10), 300);
        // Three stones at one place: the first middle is the farthest of the grid.
        tell(x, RING + times(" stone 0 0", 3) + ";");
        due("4 by 6 west", x.fit(0, 0, 0, 2), -24);
        due("4 by 6 south", x.fit(0, 0, 0, 3), -24);
    }

    private static void untoldLean() {
        says("LEAN by x and y (-99 .. 99; 0 and 0 without), set up AGAIN, GONE");
        YardRings x = told(RING + " stone 1 2 lean 3 4 again gone stone 5 6 stone 1 2 again stone 1 2 gone stone 1 2 lean 0 0;");
        int[][] due = {{3, 4, 1, 1}, {0, 0, 0, 0}, {0, 0, 1, 0}, {0, 0, 0, 1}, {0, 0, 0, 0}};
        for (int stone = 0; stone < due.length; stone++) {
            for (int what = 2; what < 6; what++) {
                due("look(0, " + stone + ", " + what + ")", looked(x, 0, stone, what), due[stone][what - 2]);
            }
        }
        bad(RING + " stone 1 2 gone again;", 1, 31);
        bad(RING + " stone 1 2 again lean 1 1;", 1, 32);
        bad(RING + " stone 1 2 gone gone;", 1, 31);
        bad(RING + " stone 1 2 again again;", 1, 32);
        bad(RING + " stone 1 2 lean 1 1 lean 1 1;", 1, 35);
        bad(RING + " again;", 1, 16);
        bad(RING + " gone;", 1, 16);
        bad(RING + " lean 1 1;", 1, 16);
    }

    // ---- names and limits

    private static void namesOfTheirKind() {
        says("LANDS, RINGS, WAYS, measurers have names of their kind");
        YardRings x = told("land b;land a;ring c a;ring a a;way b 1 1 1 1 1 1 1;way c 1 1 1 1 1 1 1;way a 1 1 1 1 1 1 1;said d a 1;said c a 1;"
            + "said b a 1;said a a 1;");
        for (int what = 0; what < 4; what++) {
            due("a of kind " + what, x.named(what, letters("a")), what == 3 ? 3 : what == 2 ? 2 : 1);
        }
        due("its land", x.about(1, 0), 1);
    }

    private static void measurersAsTheyAreFirstSaid() {
        says("All numbered as they come (measurers, at most 6, as they are first said)");
        YardRings x = told(RING + ";said c a 1;said b a 1;said c a 1;said a a 1;said b a 1;");
        due("c", x.named(3, letters("c")), 0);
        due("b", x.named(3, letters("b")), 1);
        due("a", x.named(3, letters("a")), 2);
        due("measurers", x.count(4), 3);
        due("sayings", x.count(3), 5);
    }

    private static String lines(String before, String behind, int many) {
        StringBuilder s = new StringBuilder();
        for (int i = 0; i < many; i++) {
            s.append(before).append((char) ('a' + i)).append(behind);
        }
        return s.toString();
    }

    private static void tooManyLands() {
        says("LANDS, at most 4; 2 too much (at it): a fifth land (at the word of the LINE)");
        String four = lines("land ", ";", 4);
        good(four, 4);
        bad(four + "land e;", 2, four.length());
        bad(four + "land", 2, four.length());
        bad(four + "land 5", 2, four.length());
        bad(four + "land a;", 2, four.length());
        bad(four + " \n land e;", 2, four.length() + 3);
        YardRings x = told(four);
        due("four", x.count(0), 4);
        due("the fourth", x.named(0, letters("d")), 3);
    }

    private static void tooManyRings() {
        says("RINGS, at most 8; 2 too much (at it): a ninth ring (at the word of the LINE)");
        String eight = "land l;" + lines("ring ", " l;", 8);
        good(eight, 9);
        bad(eight + "ring i l;", 2, eight.length());
        bad(eight + "ring", 2, eight.length());
        bad(eight + "ring a l;", 2, eight.length());
        YardRings x = told(eight);
        due("eight", x.count(1), 8);
        due("the eighth", x.named(1, letters("h")), 7);
        due("is about", x.about(7, 1), 0);
        due("a ninth", x.about(8, 1), -1);
    }

    private static void tooManyStones() {
        says("each with STONES, at most 10; 2 too much (at it): an 11th stone (at the word)");
        String ten = RING + times(" stone 1 1", 10);
        good(ten + ";", 2);
        bad(ten + " stone 1 1;", 2, ten.length() + 1);
        bad(ten + " stone", 2, ten.length() + 1);
        bad(ten + " stone x", 2, ten.length() + 1);
        String twice = ten + ";ring b l" + times(" stone 2 2", 10);
        good(twice + ";", 3);
        bad(twice + " stone 1 1;", 2, twice.length() + 1);
        YardRings x = told(twice + ";");
        due("ten", x.about(0, 1), 10);
        due("and ten", x.about(1, 1), 10);
        due("the tenth of the first", looked(x, 0, 9, 0), 1);
        due("the first of the second", looked(x, 1, 0, 0), 2);
        due("none", told(RING + ";").about(0, 1), 0);
    }

    private static void tooManyWays() {
        says("WAYS, at most 5; 2 too much (at it): a sixth way (at the word of the LINE)");
        String five = lines("way ", " 1 1 1 1 1 1 1;", 5);
        good(five, 5);
        bad(five + "way f 1 1 1 1 1 1 1;", 2, five.length());
        bad(five + "way", 2, five.length());
        bad(five + "way a 1", 2, five.length());
        YardRings x = told(five);
        due("five", x.count(2), 5);
        due("the fifth", x.named(2, letters("e")), 4);
        due("of all", x.tells(4, 100, 1), 5);
    }

    private static void tooManySayings() {
        says("at most 20 SAYINGS; 2 too much (at it): a 21st said (at the word of the LINE)");
        String twenty = RING + ";" + times("said k a 1;", 20);
        good(twenty, 22);
        bad(twenty + "said k a 1;", 2, twenty.length());
        bad(twenty + "said", 2, twenty.length());
        bad(twenty + "said k x 0;", 2, twenty.length());
        YardRings x = told(twenty);
        due("twenty", x.count(3), 20);
        due("each off 1", x.blind(100, 2), 20);
    }

    private static void tooManyMeasurers() {
        says("measurers, at most 6; 2 too much (at it): a seventh measurer (at W)");
        String six = RING + ";" + lines("said ", " a 1;", 6);
        good(six, 8);
        bad(six + "said g a 1;", 2, six.length() + 5);
        bad(six + "said  g x", 2, six.length() + 6);
        good(six + lines("said ", " a 1;", 6), 14);
        bad(six + lines("said ", " a 1;", 6) + "said g a 1;", 2, six.length() + 6 * 11 + 5);
        YardRings x = told(six);
        due("six", x.count(4), 6);
        due("the sixth", x.named(3, letters("f")), 5);
    }

    private static void tooManyOpen() {
        says("2 too much (at it): a ninth '(' open");
        String eight = times("(", 8);
        good("near " + eight + "1" + times(")", 8) + ";", 1);
        bad("near " + eight + "(1" + times(")", 9) + ";", 2, 13);
        bad("near " + eight + "(", 2, 13);
        // Those closed again are not open.
        good("near " + times("((1)and 1)and ", 9) + "1;", 1);
        good("near " + eight + "1)+(1)+(1" + times(")", 8) + ";", 1);
        bad("near " + eight + "1)+((1" + times(")", 9) + ";", 2, 5 + 8 + 4);
        good("near " + times("(1)and(1)or ", 10) + "1;", 1);
    }

    private static void tooManyKnots() {
        says("2 too much (at it): a 65th KNOT (N, NAMES, signs, not, and, or in E: one each)");
        String nots = "near " + times("not ", 62);
        int end = nots.length();
        due("N is the 63rd", told(nots + "1;").count(7), 63);
        for (String name : "off unit size times stones sort 1 9999".split(" ")) {
            due("a 64th", told(nots + "not " + name + ";").count(7), 64);
            bad(nots + "not not " + name + ";", 2, end + 8);
        }
        for (String sign : "+ - * / < <= = <> >= > and or".split(" ")) {
            due(sign + " is one", told("near 1 " + sign + " 1;").count(7), 3);
            // The sign is the 64th, what is behind it the 65th.
            bad(nots + "1 " + sign + " 1;", 2, end + 3 + sign.length());
            bad(nots + "not 1 " + sign + " 1;", 2, end + 6);
        }
        bad(nots + "not not not 1;", 2, end + 8);
        due("not is one", told("near not not 1;").count(7), 3);
        due("brackets are none", told("near ((1)+(2));").count(7), 3);
        due("64 and brackets", told(nots + "not ((1));").count(7), 64);
        due("no rule", told("land l;").count(7), 0);
        due("64 by 1 and 1", told("near not 1" + times("+1", 31) + ";").count(7), 64);
        bad("near 1" + times("+1", 32) + ";", 2, 5 + 64);
    }

    // ---- faults

    private static void toldAlready() {
        says("3 told already: a name of its kind (at W), near, grid, slack (at the word)");
        bad("land a;land b;land a;", 3, 19);
        bad("land a;land b;land b;", 3, 19);
        bad("land l;ring a l;ring b l;ring a l;", 3, 30);
        bad("land l;ring a l;ring a x;", 3, 21);
        bad("land l;ring a l;ring a", 3, 21);
        bad("way a 1 1 1 1 1 1 1;way a 0;", 3, 24);
        bad("near 1;near 1;", 3, 7);
        bad("near 1;near", 3, 7);
        bad("grid 1 1;grid 10;", 3, 9);
        bad("slack 1;slack x;", 3, 8);
        good("land abcdef;land abcde;land a;", 3);
        good(RING + ";said a a 1;said a a 1;", 4);
    }

    private static void notToldAhead() {
        says("4 a LAND or RING that isn't told ahead (at W)");
        bad("ring a l;land l;", 4, 7);
        bad("land l;ring a k;", 4, 14);
        bad("land l;ring a a;", 4, 14);
        bad("land l;ring l b;", 4, 14);
        bad("land l;said k a 1;ring a l;", 4, 14);
        bad(RING + ";said a l 1;", 4, 23);
        bad(RING + ";said k b", 4, 23);
        good(RING + ";ring l l;said a l 1;", 4);
    }

    private static void moreMustCome() {
        says("1 a TOKEN that can't stand there (the length, if more must come)");
        String[] texts = {RING + " stone -1 -2 lean -3 -4 again gone;", "way w 1 2 3 4 5 6 7;", RING + ";said k a 5 blind;", "grid 1 2;", "slack 3;",
            "near not(off<1)or 2*3>=unit-size/times and sort<>stones;"};
        for (String text : texts) {
            int last = text.lastIndexOf(';', text.length() - 2) + 1;
            for (int n = last; n < text.length(); n++) {
                // A part of a word may be a fault at its own place; where it is whole, the length is told.
                char c = text.charAt(n);
                char before = n == 0 ? ' ' : text.charAt(n - 1);
                boolean inside = Character.isLetter(c) && Character.isLetter(before);
                if (n == last) {
                    YardRings x = new YardRings();
                    feed(x, text);
                    yes("no line more", x.text(n) >= 0);
                } else if (!inside) {
                    bad(text.substring(0, n), 1, n);
                    bad(text.substring(0, n) + " ", 1, n + 1);
                    bad(text.substring(0, n) + "\n\n ", 1, n + 3);
                }
            }
        }
    }

    private static void tokensThatCantStand() {
        says("1 a TOKEN that is none or can't stand there");
        bad("near;", 1, 4);
        bad("near ;", 1, 5);
        bad("near 1 2;", 1, 7);
        bad("near 1 off;", 1, 7);
        bad("near land;", 1, 5);
        bad("near foo;", 1, 5);
        bad("near gone;", 1, 5);
        bad("near 1);", 1, 6);
        bad("near (1));", 1, 8);
        bad("near (1;", 1, 7);
        bad("near ();", 1, 6);
        bad("near 1();", 1, 6);
        bad("near (1)(2);", 1, 8);
        for (String sign : "+ - * / < <= = <> >= > and or".split(" ")) {
            bad("near " + sign + " 1;", 1, 5);
            bad("near (" + sign + " 1);", 1, 6);
            bad("near 1 " + sign + ";", 1, 7 + sign.length());
            bad("near (1 " + sign + ");", 1, 8 + sign.length());
            bad("near 1 " + sign + " + 1;", 1, 8 + sign.length());
            bad("near not " + sign + " 1;", 1, 9);
            good("near 1 " + sign + " (not 1);", 1);
            if (sign.equals("and") || sign.equals("or")) {
                good("near 1 " + sign + " not 1;", 1);
            } else {
                bad("near 1 " + sign + " not 1;", 1, 8 + sign.length());
            }
        }
        bad("near not;", 1, 8);
        bad("near 1 not 1;", 1, 7);
        for (String first : "< <= = <> >= >".split(" ")) {
            for (String second : "< <= = <> >= >".split(" ")) {
                bad("near 1 " + first + " 2 " + second + " 3;", 1, 10 + first.length());
                bad("near 1 " + first + " 2*3+4 " + second + " 3;", 1, 14 + first.length());
                good("near (1 " + first + " 2) " + second + " 3;", 1);
                good("near 1 " + first + " 2 and 1 " + second + " 3;", 1);
                good("near not 1 " + first + " 2 or not 1 " + second + " 3;", 1);
            }
        }
        for (String word : LANGUAGE) {
            if (!"land ring way near said grid slack".contains(word)) {
                bad(word + " 1;", 1, 0);
            }
        }
        bad("foo;", 1, 0);
        bad("5;", 1, 0);
    }

    private static void signsOfTwo() {
        says("A = (or > behind <) right behind < or > belongs to it.");
        for (String sign : "<= <> >=".split(" ")) {
            good("near 1" + sign + "2;", 1);
            good("near 1 " + sign + " 2;", 1);
            bad("near 1" + sign.charAt(0) + " " + sign.charAt(1) + "2;", 1, 8);
            bad("near 1" + sign.charAt(0) + "\n" + sign.charAt(1) + "2;", 1, 8);
            bad("near 1" + sign + "=2;", 1, 8);
            bad("near 1" + sign + ">2;", 1, 8);
        }
        bad("near 1=<2;", 1, 7);
        bad("near 1=>2;", 1, 7);
        bad("near 1><2;", 1, 7);
        bad("near 1<<2;", 1, 7);
        bad("near 1>>2;", 1, 7);
        bad("near 1==2;", 1, 7);
        String ring = RING + SQUARE + ";near ";
        due("3<=3", told(ring + "3<=3;").near(100), 1);
        due("3<>3", told(ring + "3<>3;").near(100), 0);
        due("3>=3", told(ring + "3>=3;").near(100), 1);
    }

    private static void theFirstAlongTheText() {
        says("FAULTS, the first along the text, with its place");
        String[] parts = {"ring a x;", "land l;land l;", "slack 10000;", "oops;", "grid 1;"};
        int[] faults = {4, 3, 2, 1, 1};
        int[] within = {7, 12, 6, 0, 6};
        for (int i = 0; i < parts.length; i++) {
            StringBuilder text = new StringBuilder();
            for (int k = 0; k < parts.length; k++) {
                text.append(parts[(i + k) % parts.length]);
            }
            bad(text.toString(), faults[i], within[i]);
            bad("near 1;\n" + text, faults[i], within[i] + 8);
        }
        // In one line: the name told already comes before the land that isn't told, that before the number.
        bad(RING + ";ring a x stone 1000 0;", 3, 21);
        bad(RING + ";ring b x stone 1000 0;", 4, 23);
        bad(RING + ";ring b l stone 1000 oops;", 2, 31);
        bad(RING + ";ring b l stone 100 oops;", 1, 35);
        // The place counts, not when it is found: what is left open is told at the length, the number before it.
        bad("near (10000", 2, 6);
    }

    private static void ofOnePlaceTheLeast() {
        says("FAULTS, the first along the text (of one place the least)");
        String knots = "near " + times("not ", 63) + "1";
        bad(knots + " 1;", 1, knots.length() + 1);
        bad(knots + " 10000;", 1, knots.length() + 1);
        bad(knots + " (;", 1, knots.length() + 1);
        bad(knots + " #;", 1, knots.length() + 1);
        bad(knots + "+1;", 2, knots.length());
        bad("near " + times("not ", 64) + ";", 1, 5 + 64 * 4);
        bad("near " + times("not ", 64) + "+1;", 1, 5 + 64 * 4);
        bad("near " + times("not ", 64) + "10000;", 2, 5 + 64 * 4);
        String open = "near " + times("(", 8) + "1";
        bad(open + "(", 1, open.length());
        bad("near " + times("not ", 63) + "1<1<1;", 2, 5 + 63 * 4 + 1);
        bad("near " + times("not ", 61) + "1<1<1;", 1, 5 + 61 * 4 + 3);
        // The 65th knot would be a second comparison, which can't stand there: the lesser of two faults at one place.
        bad("near " + times("not ", 61) + "1<1=1;", 1, 5 + 61 * 4 + 3);
        bad("near " + times("not ", 60) + "1+1<1<1;", 2, 5 + 60 * 4 + 4);
        bad("near " + times("not ", 59) + "1+1<1<1;", 1, 5 + 59 * 4 + 5);
    }

    private static void readingAfterAFault() {
        says("NONE with a FAULT, all stays");
        YardRings x = told(RING + SQUARE + ";grid 0 1;");
        String[] broken = {"near 1+2*", "near ((((((((1", "near not not (1 or 2 and (", "near 1<", "land a;land b;land c;land d;ring a", "slack 5;grid 5"};
        for (String text : broken) {
            tell(x, text);
            due("a rule is read as on a new object", tell(x, RING + SQUARE + ";grid 0 1;near off=0 and " + times("(", 8) + "1" + times(")", 8) + ";"), 4);
            due("its knots", x.count(7), 5);
            due("it holds", x.near(4000), 1);
            due("it doesn't", x.near(3000), 0);
            due("slack", x.count(10), 300);
        }
    }
}
