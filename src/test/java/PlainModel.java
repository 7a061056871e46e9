import java.math.BigInteger;
import java.util.ArrayList;
import java.util.Arrays;
import java.util.HashMap;
import java.util.List;
import java.util.Map;
import java.util.NoSuchElementException;
import java.util.regex.Matcher;
import java.util.regex.Pattern;

/**
 * The document once more, in the plainest way and with the whole Java library: nothing is kept that can be
 * worked out anew. It is written apart from YardRings so that the two can be held against one another.
 */
final class PlainModel {
    static final class Fault extends RuntimeException {
        private static final long serialVersionUID = 1;
        final int number;
        final int place;

        Fault(int number, int place) {
            super(null, null, false, false);
            this.number = number;
            this.place = place;
        }
    }

    record Token(String text, int place) {
        boolean isWord() {
            return text.matches("[a-z]{1,6}");
        }

        boolean isNumber() {
            return text.matches("[0-9]+");
        }

        boolean isName() {
            return isWord() && !LANGUAGE.contains(text);
        }
    }

    record Stone(int x, int y, int lx, int ly, boolean again, boolean gone) {
    }

    record Ring(String name, int land, List<Stone> stones) {
    }

    record Way(String name, int weight, int[] bins) {
    }

    record Saying(int who, int ring, int size, boolean blind) {
    }

    record Note(char kind, int ring, int stone, int a, int b) {
    }

    record Fitted(int size, int misfit, int x, int y) {
    }

    record Best(int shape, Fitted fit, int stones) {
    }

    interface Knot {
        BigInteger value(Map<String, Integer> names);
    }

    static final class Text {
        List<String> lands = new ArrayList<>();
        List<Ring> rings = new ArrayList<>();
        List<Way> ways = new ArrayList<>();
        List<Saying> sayings = new ArrayList<>();
        List<String> measurers = new ArrayList<>();
        Knot rule;
        int knots;
        int[] grid;
        Integer slack;
        int lines;
    }

    static final List<String> LANGUAGE = Arrays.asList(("land ring stone lean again gone way near said blind grid "
        + "slack or and not off unit size times stones sort").split(" "));
    static final List<String> RULE_NAMES = List.of("off", "unit", "size", "times", "stones", "sort");
    static final Map<String, Fitted> MEMORY = new HashMap<>();

    StringBuilder tape = new StringBuilder();
    Text text = new Text();
    List<Note> notes = new ArrayList<>();
    int fault = 0;
    int place = -1;
    int knownBy = -1;
    int mode = 0;
    boolean halves = false;

    // ---- reading

    static final class Parser {
        final List<Token> tokens = new ArrayList<>();
        final int length;
        int at = 0;
        int open = 0;
        final Text text = new Text();

        Parser(String source) {
            length = source.length();
            Matcher m = Pattern.compile("[ \n]+|[a-z]+|[0-9]+|<=|<>|>=|(?s:.)").matcher(source);
            while (m.find()) {
                if (!m.group().matches("[ \n]+")) {
                    tokens.add(new Token(m.group(), m.start()));
                }
            }
        }

        Token peek() {
            return at < tokens.size() ? tokens.get(at) : new Token("", length);
        }

        boolean is(String... texts) {
            return Arrays.asList(texts).contains(peek().text);
        }

        Fault fault(int number) {
            return new Fault(number, peek().place);
        }

        void need(boolean good, int number) {
            if (!good) {
                throw fault(number);
            }
        }

        boolean skip(String word) {
            if (is(word)) {
                at++;
                return true;
            }
            return false;
        }

        String word() {
            need(peek().isName(), 1);
            return peek().text;
        }

        int number(int least, int most) {
            need(peek().isNumber(), 1);
            BigInteger n = new BigInteger(peek().text);
            need(n.compareTo(BigInteger.valueOf(least)) >= 0 && n.compareTo(BigInteger.valueOf(most)) <= 0, 2);
            at++;
            return n.intValue();
        }

        int signed(int most) {
            return skip("-") ? -number(0, most) : number(0, most);
        }

        Text read() {
            while (at < tokens.size()) {
                line();
                need(is(";"), 1);
                at++;
                text.lines++;
            }
            return text;
        }

        void line() {
            switch (peek().text) {
                case "land" -> {
                    need(text.lands.size() < 4, 2);
                    at++;
                    need(!text.lands.contains(word()), 3);
                    text.lands.add(word());
                    at++;
                }
                case "ring" -> ring();
                case "way" -> {
                    need(text.ways.size() < 5, 2);
                    at++;
                    String name = word();
                    need(text.ways.stream().noneMatch(w -> w.name.equals(name)), 3);
                    at++;
                    int weight = number(1, 99);
                    int[] bins = new int[6];
                    for (int i = 0; i < 6; i++) {
                        bins[i] = number(0, 99);
                    }
                    text.ways.add(new Way(name, weight, bins));
                }
                case "near" -> {
                    need(text.rule == null, 3);
                    at++;
                    text.rule = either();
                }
                case "said" -> said();
                case "grid" -> {
                    need(text.grid == null, 3);
                    at++;
                    text.grid = new int[] {number(0, 9), number(1, 20)};
                }
                case "slack" -> {
                    need(text.slack == null, 3);
                    at++;
                    text.slack = number(0, 9999);
                }
                default -> throw fault(1);
            }
        }

        void ring() {
            need(text.rings.size() < 8, 2);
            at++;
            String name = word();
            need(text.rings.stream().noneMatch(r -> r.name.equals(name)), 3);
            at++;
            int land = text.lands.indexOf(word());
            need(land >= 0, 4);
            at++;
            List<Stone> stones = new ArrayList<>();
            while (is("stone")) {
                need(stones.size() < 10, 2);
                at++;
                int x = signed(999);
                int y = signed(999);
                boolean leans = skip("lean");
                int lx = leans ? signed(99) : 0;
                int ly = leans ? signed(99) : 0;
                boolean again = skip("again");
                boolean gone = skip("gone");
                stones.add(new Stone(x, y, lx, ly, again, gone));
            }
            text.rings.add(new Ring(name, land, stones));
        }

        void said() {
            need(text.sayings.size() < 20, 2);
            at++;
            String who = word();
            need(text.measurers.contains(who) || text.measurers.size() < 6, 2);
            if (!text.measurers.contains(who)) {
                text.measurers.add(who);
            }
            at++;
            String name = word();
            int ring = -1;
            for (int i = 0; i < text.rings.size(); i++) {
                ring = text.rings.get(i).name.equals(name) ? i : ring;
            }
            need(ring >= 0, 4);
            at++;
            int size = number(1, 99999);
            text.sayings.add(new Saying(text.measurers.indexOf(who), ring, size, skip("blind")));
        }

        void knot() {
            need(text.knots < 64, 2);
            text.knots++;
        }

        String sign() {
            knot();
            return tokens.get(at++).text;
        }

        Knot either() {
            Knot left = both();
            while (is("or")) {
                sign();
                left = pair("or", left, both());
            }
            return left;
        }

        Knot both() {
            Knot left = negated();
            while (is("and")) {
                sign();
                left = pair("and", left, negated());
            }
            return left;
        }

        Knot negated() {
            if (is("not")) {
                sign();
                Knot inner = negated();
                return names -> truth(inner.value(names).signum() == 0);
            }
            Knot left = sum();
            if (is("<", "<=", "=", "<>", ">=", ">")) {
                String sign = sign();
                return pair(sign, left, sum());
            }
            return left;
        }

        Knot sum() {
            Knot left = product();
            while (is("+", "-")) {
                String sign = sign();
                left = pair(sign, left, product());
            }
            return left;
        }

        Knot product() {
            Knot left = part();
            while (is("*", "/")) {
                String sign = sign();
                left = pair(sign, left, part());
            }
            return left;
        }

        Knot part() {
            if (is("(")) {
                need(open < 8, 2);
                open++;
                at++;
                Knot inner = either();
                need(is(")"), 1);
                at++;
                open--;
                return inner;
            }
            if (RULE_NAMES.contains(peek().text)) {
                String name = sign();
                return names -> BigInteger.valueOf(names.get(name));
            }
            need(peek().isNumber(), 1);
            need(text.knots < 64, 2);
            BigInteger n = BigInteger.valueOf(number(0, 9999));
            text.knots++;
            return names -> n;
        }

        static BigInteger truth(boolean is) {
            return is ? BigInteger.ONE : BigInteger.ZERO;
        }

        static Knot pair(String sign, Knot left, Knot right) {
            return names -> {
                BigInteger a = left.value(names);
                BigInteger b = right.value(names);
                BigInteger c = switch (sign) {
                    case "or" -> truth(a.signum() != 0 || b.signum() != 0);
                    case "and" -> truth(a.signum() != 0 && b.signum() != 0);
                    case "<" -> truth(a.compareTo(b) < 0);
                    case "<=" -> truth(a.compareTo(b) <= 0);
                    case "=" -> truth(a.compareTo(b) == 0);
                    case "<>" -> truth(a.compareTo(b) != 0);
                    case ">=" -> truth(a.compareTo(b) >= 0);
                    case ">" -> truth(a.compareTo(b) > 0);
                    case "+" -> a.add(b);
                    case "-" -> a.subtract(b);
                    case "*" -> a.multiply(b);
                    default -> a.divide(b);
                };
                if (c.abs().compareTo(BigInteger.TEN.pow(12)) > 0) {
                    throw new ArithmeticException("a value beyond the limit");
                }
                return c;
            };
        }
    }

    int feed(int a, int b, int c, int d, int e) {
        if (tape.length() + 20 > 900) {
            return -1;
        }
        for (int word : new int[] {a, b, c, d, e}) {
            for (int i = 3; i >= 0; i--) {
                tape.append((char) (word >>> 8 * i & 255));
            }
        }
        return tape.length();
    }

    int text(int n) {
        if (n < 0 || n > tape.length()) {
            return -2;
        }
        String source = tape.substring(0, n);
        tape.setLength(0);
        try {
            text = new Parser(source).read();
        } catch (Fault f) {
            fault = f.number;
            place = f.place;
            return -1;
        }
        fault = 0;
        place = -1;
        notes.clear();
        knownBy = -1;
        return text.lines;
    }

    int fault(int what) {
        return what == 0 ? fault : what == 1 ? place : -1;
    }

    static int letters(String name) {
        int letters = 0;
        for (int i = 0; i < 6; i++) {
            letters = letters * 32 + (i < name.length() ? name.charAt(i) - 96 : 0);
        }
        return letters;
    }

    int named(int what, int letters) {
        List<String> names = switch (what) {
            case 0 -> text.lands;
            case 1 -> text.rings.stream().map(Ring::name).toList();
            case 2 -> text.ways.stream().map(Way::name).toList();
            case 3 -> text.measurers;
            default -> List.of();
        };
        return names.stream().map(PlainModel::letters).toList().indexOf(letters);
    }

    // ---- notes and stones

    boolean struck(int note, int n) {
        for (int later = n - 1; later > note; later--) {
            if (notes.get(later).kind == 's' && notes.get(later).a == note && !struck(later, n)) {
                return true;
            }
        }
        return false;
    }

    int notesKnown() {
        return knownBy < 0 ? notes.size() : knownBy;
    }

    Stone stone(int ring, int number, int n) {
        Stone s = text.rings.get(ring).stones.get(number);
        for (int i = 0; i < n; i++) {
            Note note = notes.get(i);
            if (note.kind == 's' || note.ring != ring || note.stone != number || struck(i, n)) {
                continue;
            }
            s = note.kind == 't' ? new Stone(note.a, note.b, s.lx, s.ly, s.again, s.gone)
                : new Stone(s.x, s.y, s.lx, s.ly, s.again, note.a == 1);
        }
        return s;
    }

    boolean hasRing(int ring) {
        return ring >= 0 && ring < text.rings.size();
    }

    boolean hasStone(int ring, int stone) {
        return hasRing(ring) && stone >= 0 && stone < text.rings.get(ring).stones.size();
    }

    int look(int ring, int stone, int what) {
        if (!hasStone(ring, stone)) {
            throw new IndexOutOfBoundsException();
        }
        Stone s = stone(ring, stone, notesKnown());
        return switch (what) {
            case 0 -> s.x;
            case 1 -> s.y;
            case 2 -> s.lx;
            case 3 -> s.ly;
            case 4 -> s.again ? 1 : 0;
            case 5 -> s.gone ? 1 : 0;
            default -> throw new NoSuchElementException();
        };
    }

    List<int[]> points(int ring, int n) {
        List<int[]> points = new ArrayList<>();
        for (int i = 0; i < text.rings.get(ring).stones.size(); i++) {
            Stone s = stone(ring, i, n);
            if (!s.gone && !(mode % 2 == 1 && s.again)) {
                points.add(mode / 2 == 1 ? new int[] {s.x + s.lx, s.y + s.ly} : new int[] {s.x, s.y});
            }
        }
        return points;
    }

    int about(int ring, int what) {
        if (!hasRing(ring)) {
            return -1;
        }
        return switch (what) {
            case 0 -> text.rings.get(ring).land;
            case 1 -> text.rings.get(ring).stones.size();
            case 2 -> points(ring, notesKnown()).size();
            default -> -1;
        };
    }

    int note(boolean good, Note note) {
        if (!good || notes.size() >= 60) {
            return -1;
        }
        notes.add(note);
        return notes.size() - 1;
    }

    int tape(int ring, int stone, int x, int y) {
        return note(hasStone(ring, stone) && Math.abs((long) x) <= 999 && Math.abs((long) y) <= 999,
            new Note('t', ring, stone, x, y));
    }

    int gone(int ring, int stone, boolean gone) {
        return note(hasStone(ring, stone), new Note('g', ring, stone, gone ? 1 : 0, 0));
    }

    int strike(int note) {
        return note(note >= 0 && note < notes.size(), new Note('s', -1, -1, note, 0));
    }

    boolean known(int n) {
        if (n < -1 || n > notes.size()) {
            return false;
        }
        knownBy = n;
        return true;
    }

    boolean mode(int mode, boolean halves) {
        if (mode < 0 || mode > 3) {
            return false;
        }
        this.mode = mode;
        this.halves = halves;
        return true;
    }

    // ---- fits

    int grid() {
        return text.grid == null ? 4 : text.grid[0];
    }

    int step() {
        return text.grid == null ? 6 : text.grid[1];
    }

    int slack() {
        return text.slack == null ? 300 : text.slack;
    }

    static int root(long value) {
        return BigInteger.valueOf(value).sqrt().intValueExact();
    }

    Fitted work(List<int[]> points, int sort, int turn) {
        int n = points.size();
        int mx = Math.floorDiv(points.stream().mapToInt(p -> p[0]).sum(), n);
        int my = Math.floorDiv(points.stream().mapToInt(p -> p[1]).sum(), n);
        int h = step();
        Fitted best = null;
        for (int i = -grid(); i <= grid(); i++) {
            for (int k = -grid(); k <= grid(); k++) {
                int[] away = new int[n];
                for (int s = 0; s < n; s++) {
                    int a = points.get(s)[0] - mx - i * h;
                    int b = points.get(s)[1] - my - k * h;
                    boolean there = switch (turn) {
                        case 0 -> a > 0;
                        case 1 -> b > 0;
                        case 2 -> a < 0;
                        default -> b < 0;
                    };
                    if (sort > 0 && there && turn % 2 == 0) {
                        a = sort == 1 ? a * 4 / 3 : a * 3 / 4;
                    }
                    if (sort > 0 && there && turn % 2 == 1) {
                        b = sort == 1 ? b * 4 / 3 : b * 3 / 4;
                    }
                    away[s] = root(10000L * ((long) a * a + (long) b * b));
                }
                int radius = Arrays.stream(away).sum() / n;
                int misfit = Arrays.stream(away).map(w -> Math.abs(w - radius)).sum();
                if (best == null || misfit < best.misfit) {
                    best = new Fitted(2 * radius, misfit, mx + i * h, my + k * h);
                }
            }
        }
        return best;
    }

    Fitted fitted(int ring, int shape, int n) {
        List<int[]> points = points(ring, n);
        StringBuilder key = new StringBuilder().append(shape).append('|').append(grid()).append('|').append(step());
        for (int[] p : points) {
            key.append('|').append(p[0]).append(',').append(p[1]);
        }
        if (MEMORY.size() > 200000) {
            MEMORY.clear();
        }
        String name = key.toString();
        if (!MEMORY.containsKey(name)) {
            MEMORY.put(name, work(points, shape / 4, shape % 4));
        }
        return MEMORY.get(name);
    }

    static List<Integer> shapes() {
        return List.of(0, 4, 5, 6, 7, 8, 9, 10, 11);
    }

    /** Null without a fit. */
    Best best(int ring, long n) {
        int stones = hasRing(ring) ? points(ring, (int) n).size() : 0;
        if (stones < 3) {
            return null;
        }
        Best best = null;
        for (int shape : shapes()) {
            Fitted f = fitted(ring, shape, (int) n);
            if (best == null || f.misfit < best.fit.misfit) {
                best = new Best(shape, f, stones);
            }
        }
        return best;
    }

    Best bestNow(int ring) {
        return best(ring, (long) notesKnown());
    }

    List<Integer> asWell(int ring) {
        int most = bestNow(ring).fit.misfit + slack();
        return shapes().stream().filter(s -> fitted(ring, s, notesKnown()).misfit <= most).toList();
    }

    int fit(int ring, int sort, int turn, int what) {
        if (bestNow(ring) == null || sort < 0 || sort > 2 || turn < 0 || turn > 3 || sort == 0 && turn > 0) {
            return Integer.MIN_VALUE;
        }
        Fitted f = fitted(ring, sort * 4 + turn, notesKnown());
        return switch (what) {
            case 0 -> f.size;
            case 1 -> f.misfit;
            case 2 -> f.x;
            case 3 -> f.y;
            default -> Integer.MIN_VALUE;
        };
    }

    int best(int ring, int what) {
        Best b = bestNow(ring);
        if (b == null) {
            return -1;
        }
        return switch (what) {
            case 0 -> b.shape / 4;
            case 1 -> b.shape % 4;
            case 2 -> b.fit.size;
            case 3 -> b.fit.misfit;
            default -> -1;
        };
    }

    int well(int ring) {
        return bestNow(ring) == null ? -1 : asWell(ring).stream().mapToInt(s -> 1 << s).sum();
    }

    int span(int ring, int what) {
        if (bestNow(ring) == null || what < 0 || what > 1) {
            return -1;
        }
        int[] sizes = asWell(ring).stream().mapToInt(s -> fitted(ring, s, notesKnown()).size).sorted().toArray();
        return what == 0 ? sizes[0] : sizes[sizes.length - 1];
    }

    // ---- units

    boolean isUnit(int unit) {
        return unit >= 100 && unit <= 9999;
    }

    int part(int unit) {
        return halves ? unit / 2 : unit;
    }

    int times(int size, int unit) {
        int found = 0;
        int around = size / part(unit);
        for (int t = around + 1; t >= 0 && t >= around - 1; t--) {
            if (t == around + 1 || Math.abs(size - t * part(unit)) <= Math.abs(size - found * part(unit))) {
                found = t;
            }
        }
        return found;
    }

    int off(int size, int unit) {
        return Math.abs(size - times(size, unit) * part(unit));
    }

    int whole(int size, int unit, int what) {
        if (size < 0 || size > 999999 || !isUnit(unit) || what < 0 || what > 1) {
            return -1;
        }
        return what == 0 ? off(size, unit) : times(size, unit);
    }

    boolean isNear(int size, int unit, Best b) {
        int off = off(size, unit);
        if (text.rule == null) {
            return 8 * off <= unit;
        }
        try {
            return text.rule.value(Map.of("off", off, "unit", unit, "size", size, "times", times(size, unit),
                "stones", b.stones, "sort", b.shape / 4)).signum() != 0;
        } catch (ArithmeticException e) {
            return false;
        }
    }

    int near(int unit) {
        if (!isUnit(unit)) {
            return -1;
        }
        int bits = 0;
        for (int ring = 0; ring < 8; ring++) {
            Best b = bestNow(ring);
            bits += b != null && isNear(b.fit.size, unit, b) ? 1 << ring : 0;
        }
        return bits;
    }

    int lumpsOf(List<Integer> sizes, int unit) {
        return sizes.stream().mapToInt(s -> 4000 * off(s, unit) / part(unit)).sum();
    }

    List<Integer> sizes(int land, int sort) {
        List<Integer> sizes = new ArrayList<>();
        for (int ring = 0; ring < text.rings.size(); ring++) {
            Best b = bestNow(ring);
            if (b != null && (land < 0 || text.rings.get(ring).land == land) && (sort < 0 || b.shape / 4 == sort)) {
                sizes.add(b.fit.size);
            }
        }
        return sizes;
    }

    int lumps(int unit) {
        return isUnit(unit) ? lumpsOf(sizes(-1, -1), unit) : -1;
    }

    /** Empty if these are none, or more than so many. */
    List<Integer> units(int a, int b, int c, int most) {
        List<Integer> units = new ArrayList<>();
        if (isUnit(a) && isUnit(b) && c >= 1 && c <= 9999) {
            for (int unit = a; unit <= b; unit += c) {
                units.add(unit);
            }
        }
        return units.size() > most ? List.of() : units;
    }

    int bestUnit(List<Integer> sizes, List<Integer> units) {
        int best = units.get(0);
        for (int unit : units) {
            if (lumpsOf(sizes, unit) < lumpsOf(sizes, best)) {
                best = unit;
            }
        }
        return best;
    }

    int unit(int a, int b, int c, int what) {
        List<Integer> units = units(a, b, c, 1000);
        if (units.isEmpty() || what < 0 || what > 2) {
            return -1;
        }
        int best = bestUnit(sizes(-1, -1), units);
        return what == 0 ? best : what == 1 ? lumpsOf(sizes(-1, -1), best) : units.size();
    }

    int odds(int unit, int many) {
        if (!isUnit(unit) || many < 0 || many > sizes(-1, -1).size()) {
            return -1;
        }
        long u = part(unit);
        long[] row = new long[10];
        row[0] = 1000000000L;
        for (int ring = 0; ring < text.rings.size(); ring++) {
            Best b = bestNow(ring);
            if (b == null) {
                continue;
            }
            long ones = 0;
            for (int rest = 0; rest < u; rest++) {
                ones += isNear(b.fit.size - b.fit.size % (int) u + rest, unit, b) ? 1 : 0;
            }
            long[] after = new long[10];
            for (int k = 0; k < 10; k++) {
                after[k] = row[k] * (u - ones) / u + (k == 0 ? 0 : row[k - 1] * ones / u);
            }
            row = after;
        }
        return (int) Arrays.stream(row).skip(many).sum();
    }

    int any(int a, int b, int c, int sway, int seed, int draws) {
        List<Integer> units = units(a, b, c, 100);
        if (units.isEmpty() || sway < 0 || sway > 9999 || seed < 0 || draws < 1 || draws > 50) {
            return -1;
        }
        List<Integer> own = sizes(-1, -1);
        int least = lumpsOf(own, bestUnit(own, units));
        BigInteger last = BigInteger.valueOf(seed);
        int many = 0;
        for (int draw = 0; draw < draws; draw++) {
            List<Integer> drawn = new ArrayList<>();
            for (int size : own) {
                last = last.multiply(BigInteger.valueOf(1103515245)).add(BigInteger.valueOf(12345))
                    .mod(BigInteger.TWO.pow(31));
                int number = last.divide(BigInteger.valueOf(65536)).intValueExact();
                drawn.add(Math.max(0, size + number % (2 * sway + 1) - sway));
            }
            many += lumpsOf(drawn, bestUnit(drawn, units)) <= least ? 1 : 0;
        }
        return many;
    }

    int chosen(int unit, int what) {
        if (!isUnit(unit) || what < 0 || what > 1) {
            return -1;
        }
        List<Integer> sizes = new ArrayList<>();
        int others = 0;
        for (int ring = 0; ring < text.rings.size(); ring++) {
            if (bestNow(ring) == null) {
                continue;
            }
            int chosen = -1;
            for (int shape : asWell(ring)) {
                if (chosen < 0 || off(fitted(ring, shape, notesKnown()).size, unit)
                    < off(fitted(ring, chosen, notesKnown()).size, unit)) {
                    chosen = shape;
                }
            }
            sizes.add(fitted(ring, chosen, notesKnown()).size);
            others += chosen == bestNow(ring).shape ? 0 : 1;
        }
        return what == 0 ? lumpsOf(sizes, unit) : others;
    }

    int bin(int size, int unit) {
        return Math.min(5, 12 * off(size, unit) / part(unit));
    }

    long tells(int way, int unit, int what) {
        if (way < 0 || way >= text.ways.size() || !isUnit(unit) || what < 0 || what > 1) {
            return -1;
        }
        BigInteger above = BigInteger.ZERO;
        BigInteger below = BigInteger.ZERO;
        for (int w = 0; w < text.ways.size(); w++) {
            BigInteger product = BigInteger.valueOf(text.ways.get(w).weight);
            for (int size : sizes(-1, -1)) {
                product = product.multiply(BigInteger.valueOf(text.ways.get(w).bins[bin(size, unit)]));
            }
            below = below.add(product);
            above = w == way ? product : above;
        }
        if (below.signum() == 0) {
            return 0;
        }
        return (what == 0 ? above : below).divide(above.gcd(below)).longValueExact();
    }

    int hump(int unit, int bin) {
        if (!isUnit(unit) || bin < 0 || bin > 5) {
            return -1;
        }
        return (int) sizes(-1, -1).stream().filter(s -> bin(s, unit) == bin).count();
    }

    int wander(int unit, int land) {
        if (!isUnit(unit) || land < -1 || land >= text.lands.size()) {
            return -2;
        }
        int most = 0;
        for (int size : sizes(land, -1)) {
            int times = times(size, unit);
            if (times > 0) {
                most = Math.max(most, (int) Math.ceil((halves ? 2.0 : 1.0) * off(size, unit) / times));
            }
        }
        return most;
    }

    int land(int land, int a, int b, int c) {
        List<Integer> units = units(a, b, c, 1000);
        if (land < 0 || land >= text.lands.size() || units.isEmpty() || sizes(land, -1).isEmpty()) {
            return -1;
        }
        return bestUnit(sizes(land, -1), units);
    }

    int apart(int a, int b, int c) {
        int[] found = java.util.stream.IntStream.range(0, text.lands.size()).map(l -> land(l, a, b, c))
            .filter(u -> u >= 0).sorted().toArray();
        return found.length == 0 ? -1 : found[found.length - 1] - found[0];
    }

    int sort(int sort, int unit, int what) {
        if (sort < 0 || sort > 2 || !isUnit(unit) || what < 0 || what > 1) {
            return -1;
        }
        return what == 0 ? lumpsOf(sizes(-1, sort), unit) : sizes(-1, sort).size();
    }

    int blind(int unit, int what) {
        if (!isUnit(unit) || what < 0 || what > 3) {
            return -1;
        }
        List<Saying> those = text.sayings.stream().filter(s -> s.blind == what < 2).toList();
        return what % 2 == 1 ? those.size() : those.stream().mapToInt(s -> off(s.size, unit)).sum();
    }

    int lean(int measurer, int what) {
        if (measurer < 0 || measurer >= text.measurers.size() || what < 0 || what > 1) {
            return Integer.MIN_VALUE;
        }
        int sum = 0;
        int many = 0;
        for (Saying s : text.sayings) {
            Best b = bestNow(s.ring);
            if (s.who == measurer && b != null) {
                sum += s.size - b.fit.size;
                many++;
            }
        }
        if (many == 0) {
            return 0;
        }
        int both = BigInteger.valueOf(sum).gcd(BigInteger.valueOf(many)).intValue();
        return what == 0 ? sum / both : many / both;
    }

    int ahead(int n, int a, int b, int c, int what) {
        List<Integer> units = units(a, b, c, 1000);
        if (n < 0 || n > notes.size() || units.isEmpty() || what < 0 || what > 2) {
            return -1;
        }
        List<Integer> before = new ArrayList<>();
        for (int ring = 0; ring < text.rings.size(); ring++) {
            Best then = best(ring, (long) n);
            if (then != null) {
                before.add(then.fit.size);
            }
        }
        int unit = bestUnit(before, units);
        int many = 0;
        int near = 0;
        for (int ring = 0; ring < text.rings.size(); ring++) {
            Best then = best(ring, (long) n);
            Best now = bestNow(ring);
            if (now != null && (then == null || then.fit.size != now.fit.size)) {
                many++;
                near += isNear(now.fit.size, unit, now) ? 1 : 0;
            }
        }
        return what == 0 ? unit : what == 1 ? near : many;
    }

    int next() {
        int found = -1;
        for (int ring = 0; ring < text.rings.size(); ring++) {
            if (bestNow(ring) != null
                && (found < 0 || span(ring, 1) - span(ring, 0) > span(found, 1) - span(found, 0))) {
                found = ring;
            }
        }
        return found;
    }

    int count(int what) {
        return switch (what) {
            case 0 -> text.lands.size();
            case 1 -> text.rings.size();
            case 2 -> text.ways.size();
            case 3 -> text.sayings.size();
            case 4 -> text.measurers.size();
            case 5 -> notes.size();
            case 6 -> notesKnown();
            case 7 -> text.knots;
            case 8 -> grid();
            case 9 -> step();
            case 10 -> slack();
            case 11 -> mode;
            case 12 -> halves ? 1 : 0;
            case 13 -> sizes(-1, -1).size();
            default -> -1;
        };
    }
}
