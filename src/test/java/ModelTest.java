import java.util.NoSuchElementException;
import java.util.Random;

/** Runs of calls by chance, with seeds that are always the same, held against PlainModel. */
public final class ModelTest {
    private static final int RUNS = 1500;
    private static final String[] WORDS = {"a", "b", "moor", "zz", "abcdef", "kim", "jo", "land", "stone", "sort"};
    private static int wrong = 0;

    private final Random random;
    private final YardRings real = new YardRings();
    private final PlainModel model = new PlainModel();
    private final StringBuilder log = new StringBuilder();

    private ModelTest(long seed) {
        random = new Random(seed);
    }

    public static void main(String[] args) {
        int runs = args.length > 0 ? Integer.parseInt(args[0]) : RUNS;
        long first = args.length > 1 ? Long.parseLong(args[1]) : 0;
        int calls = 0;
        for (int run = 0; run < runs && wrong < 5; run++) {
            calls += new ModelTest(first + run).run();
        }
        System.out.println(calls + " calls of " + runs + " runs, " + wrong + " not as the model answers");
        if (wrong != 0) {
            System.exit(1);
        }
    }

    private int run() {
        int calls = 60 + random.nextInt(120);
        tell();
        for (int i = 0; i < calls; i++) {
            if (!call()) {
                wrong++;
                System.out.println(log);
                return i;
            }
        }
        return calls;
    }

    private int to(int most) {
        return random.nextInt(most + 1);
    }

    private boolean chance(int of) {
        return random.nextInt(of) == 0;
    }

    private int odd(int number) {
        if (!chance(25)) {
            return number;
        }
        int[] odd = {-1, -2, number + 1, number - 1, 1000, 100000, Integer.MIN_VALUE, Integer.MAX_VALUE};
        return odd[random.nextInt(odd.length)];
    }

    // ---- texts

    private String name(String[] some, int most) {
        return chance(40) ? WORDS[random.nextInt(WORDS.length)] : some[random.nextInt(most)];
    }

    private String signed(int most) {
        int number = chance(60) ? most + to(2) : to(most);
        return (chance(2) ? "-" : "") + (chance(30) ? "00" : "") + number;
    }

    private String stones(int most) {
        StringBuilder s = new StringBuilder();
        int radius = 20 + to(chance(5) ? 970 : 200);
        int many = chance(40) ? 11 : to(most);
        for (int i = 0; i < many; i++) {
            double angle = 2 * Math.PI * i / many + random.nextDouble() / 5;
            double flat = chance(3) ? 0.8 : 1.0;
            int x = (int) (radius * Math.cos(angle) * flat) + to(4);
            int y = (int) (radius * Math.sin(angle)) + to(4);
            s.append(" stone ");
            s.append(chance(12) ? signed(999) : Math.max(-999, Math.min(999, x))).append(' ');
            s.append(chance(12) ? signed(999) : Math.max(-999, Math.min(999, y)));
            if (chance(4)) {
                s.append(" lean ").append(signed(99)).append(' ').append(signed(99));
            }
            s.append(chance(5) ? " again" : "").append(chance(8) ? " gone" : "");
        }
        return s.toString();
    }

    private String expression(int depth) {
        String[] names = {"off", "unit", "size", "times", "stones", "sort"};
        if (depth <= 0 || chance(6)) {
            return chance(2) ? names[random.nextInt(6)] : String.valueOf(chance(40) ? 10000 : to(chance(2) ? 9 : 9999));
        }
        String[] signs = {"+", "-", "*", "/", "<", "<=", "=", "<>", ">=", ">", " and ", " or "};
        String left = expression(depth - 1);
        String right = expression(depth - 1);
        if (chance(8)) {
            return "not " + left;
        }
        String both = left + signs[random.nextInt(12)] + (chance(15) ? " " : "") + right;
        return chance(2) ? "(" + both + ")" : both;
    }

    private String text() {
        String[] lands = {"l", "m", "nn", "wales", "o"};
        String[] rings = {"a", "b", "c", "d", "eee", "f", "g", "h", "i"};
        StringBuilder s = new StringBuilder();
        int landMany = 1 + to(chance(30) ? 4 : 2);
        for (int i = 0; i < landMany; i++) {
            s.append("land ").append(lands[i]).append(';');
        }
        if (chance(2)) {
            s.append("grid ").append(chance(30) ? to(11) : to(4)).append(' ').append(to(40) % 22).append(';');
        }
        if (chance(2)) {
            s.append("slack ").append(to(chance(2) ? 10010 : 900)).append(";\n");
        }
        if (chance(2)) {
            String rule = expression(1 + to(4));
            s.append("near ").append(chance(2) ? rule : "off*" + (4 + to(16)) + "<=unit and times>0 or not " + rule);
            s.append(";");
        }
        int ringMany = to(chance(20) ? 9 : 4);
        for (int i = 0; i < ringMany; i++) {
            s.append("ring ").append(chance(30) ? name(rings, 9) : rings[Math.min(i, 8)]).append(' ');
            s.append(name(lands, landMany)).append(stones(ringMany > 4 ? 5 : 8)).append(';');
        }
        String[] ways = {"rod", "pace", "rope", "eye", "hand", "foot"};
        int wayMany = to(chance(20) ? 6 : 3);
        for (int i = 0; i < wayMany; i++) {
            s.append("way ").append(ways[i]);
            for (int k = 0; k < 7; k++) {
                s.append(' ').append(chance(150) ? 100 : k == 0 ? 1 + to(98) : to(chance(2) ? 9 : 99));
            }
            s.append(";");
        }
        String[] people = {"kim", "jo", "al", "bo", "cy", "di", "ed"};
        int saidMany = ringMany == 0 ? 0 : to(chance(20) ? 22 : 5);
        for (int i = 0; i < saidMany; i++) {
            s.append("said ").append(people[random.nextInt(chance(10) ? 7 : 4)]).append(' ');
            s.append(name(rings, ringMany > 9 ? 9 : ringMany)).append(' ').append(to(chance(30) ? 100001 : 60000));
            s.append(chance(2) ? " blind" : "").append(';');
        }
        return s.toString();
    }

    private String spoil(String text) {
        StringBuilder s = new StringBuilder(text);
        String signs = ";-() <>=+*/09az\n#{A\t";
        for (int i = to(1); i >= 0 && s.length() > 0; i--) {
            int at = random.nextInt(s.length());
            switch (to(4)) {
                case 0 -> s.deleteCharAt(at);
                case 1 -> s.setCharAt(at, signs.charAt(random.nextInt(signs.length())));
                case 2 -> s.insert(at, signs.charAt(random.nextInt(signs.length())));
                case 3 -> s.setLength(at);
                default -> s.setCharAt(at, (char) to(255));
            }
        }
        return s.toString();
    }

    private boolean tell() {
        String text = text();
        for (int i = 0; i < 20 && text.length() > 900; i++) {
            text = text();
        }
        text = chance(3) ? spoil(text) : text;
        text = text.substring(0, Math.min(text.length(), 900));
        StringBuilder padded = new StringBuilder(text);
        while (padded.length() % 20 != 0) {
            padded.append(' ');
        }
        for (int i = 0; i < padded.length(); i += 20) {
            int[] five = new int[5];
            for (int k = 0; k < 20; k++) {
                five[k / 4] = five[k / 4] << 8 | padded.charAt(i + k);
            }
            if (!same("feed", real.feed(five[0], five[1], five[2], five[3], five[4]),
                model.feed(five[0], five[1], five[2], five[3], five[4]))) {
                return false;
            }
        }
        int length = odd(text.length());
        log.append(text).append('\n');
        return same("text " + length, real.text(length), model.text(length))
            && same("fault", real.fault(0), model.fault(0)) && same("place", real.fault(1), model.fault(1));
    }

    // ---- calls

    private boolean same(String call, long got, long due) {
        log.append(call).append(" = ").append(due).append('\n');
        if (got != due) {
            log.append("  but answered ").append(got).append('\n');
        }
        return got == due;
    }

    private boolean sameLook(int ring, int stone, int what) {
        long got;
        long due;
        try {
            got = real.look(ring, stone, what);
        } catch (IndexOutOfBoundsException e) {
            got = 5000001;
        } catch (NoSuchElementException e) {
            got = 5000002;
        }
        try {
            due = model.look(ring, stone, what);
        } catch (IndexOutOfBoundsException e) {
            due = 5000001;
        } catch (NoSuchElementException e) {
            due = 5000002;
        }
        return same("look " + ring + " " + stone + " " + what, got, due);
    }

    private boolean call() {
        int ring = odd(to(Math.max(0, model.text.rings.size() - 1)));
        int stone = odd(to(6));
        int unit = odd(chance(4) ? 100 + to(9899) : 100 + to(3000));
        int what = odd(to(3));
        int a = odd(100 + to(chance(2) ? 2000 : 9000));
        int c = odd(1 + to(20));
        int b = odd(Math.min(9999, a + c * to(chance(10) ? 1100 : 90)));
        String args = " ring " + ring + " stone " + stone + " unit " + unit + " what " + what + " " + a + " " + b + " " + c;
        switch (to(32)) {
            case 0:
                return chance(4) ? tell() : same("next", real.next(), model.next());
            case 1: {
                int one = to(4);
                String word = new String[] {"l", "a", "rod", "kim", "wales"}[one];
                int letters = odd(PlainModel.letters(word));
                return same("named " + what + " " + letters, real.named(what, letters), model.named(what, letters));
            }
            case 2:
                return sameLook(ring, stone, odd(to(5)));
            case 3:
                return same("about" + args, real.about(ring, what), model.about(ring, what));
            case 4, 5: {
                int x = odd(to(400) - 200);
                int y = odd(to(400) - 200);
                return same("tape" + args + " " + x + " " + y, real.tape(ring, stone, x, y), model.tape(ring, stone, x, y));
            }
            case 6, 7: {
                boolean is = chance(2);
                return same("gone" + args + is, real.gone(ring, stone, is), model.gone(ring, stone, is));
            }
            case 8: {
                int note = odd(to(model.notes.size()));
                return same("strike " + note, real.strike(note), model.strike(note));
            }
            case 9: {
                int n = chance(2) ? -1 : odd(to(model.notes.size()));
                return same("known " + n, real.known(n) ? 1 : 0, model.known(n) ? 1 : 0);
            }
            case 10: {
                int mode = odd(to(3));
                boolean is = chance(2);
                return same("mode " + mode + is, real.mode(mode, is) ? 1 : 0, model.mode(mode, is) ? 1 : 0);
            }
            case 11, 12: {
                int sort = odd(to(2));
                int turn = odd(to(3));
                return same("fit" + args + " " + sort + " " + turn, real.fit(ring, sort, turn, what),
                    model.fit(ring, sort, turn, what));
            }
            case 13:
                return same("best" + args, real.best(ring, what), model.best(ring, what));
            case 14:
                return same("well" + args, real.well(ring), model.well(ring));
            case 15:
                return same("span" + args, real.span(ring, what), model.span(ring, what));
            case 16: {
                int size = odd(to(999999));
                return same("whole" + args + " " + size, real.whole(size, unit, what), model.whole(size, unit, what));
            }
            case 17:
                return same("near" + args, real.near(unit), model.near(unit));
            case 18:
                return same("lumps" + args, real.lumps(unit), model.lumps(unit));
            case 19:
                return same("unit" + args, real.unit(a, b, c, what), model.unit(a, b, c, what));
            case 20: {
                if (!chance(4)) {
                    return true;
                }
                int many = odd(to(4));
                return same("odds" + args + " " + many, real.odds(unit, many), model.odds(unit, many));
            }
            case 21: {
                int sway = odd(to(chance(2) ? 9999 : 200));
                int seed = odd(random.nextInt() & Integer.MAX_VALUE);
                int draws = odd(1 + to(9));
                return same("any" + args + " " + sway + " " + seed + " " + draws,
                    real.any(a, b, c, sway, seed, draws), model.any(a, b, c, sway, seed, draws));
            }
            case 22:
                return same("chosen" + args, real.chosen(unit, what), model.chosen(unit, what));
            case 23: {
                int way = odd(to(2));
                return same("tells" + args + " " + way, real.tells(way, unit, what), model.tells(way, unit, what));
            }
            case 24: {
                int bin = odd(to(5));
                return same("hump" + args + " " + bin, real.hump(unit, bin), model.hump(unit, bin));
            }
            case 25: {
                int land = odd(to(3) - 1);
                return same("wander" + args + " " + land, real.wander(unit, land), model.wander(unit, land));
            }
            case 26: {
                int land = odd(to(2));
                return same("land" + args + " " + land, real.land(land, a, b, c), model.land(land, a, b, c));
            }
            case 27:
                return same("apart" + args, real.apart(a, b, c), model.apart(a, b, c));
            case 28: {
                int sort = odd(to(2));
                return same("sort" + args + " " + sort, real.sort(sort, unit, what), model.sort(sort, unit, what));
            }
            case 29:
                return same("blind" + args, real.blind(unit, what), model.blind(unit, what));
            case 30: {
                int who = odd(to(3));
                return same("lean" + args + " " + who, real.lean(who, what), model.lean(who, what));
            }
            case 31: {
                int n = odd(to(model.notes.size()));
                return same("ahead " + n + args, real.ahead(n, a, b, c, what), model.ahead(n, a, b, c, what));
            }
            default: {
                int asked = odd(to(13));
                return same("count " + asked, real.count(asked), model.count(asked));
            }
        }
    }
}
