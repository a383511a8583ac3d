import java.util.ArrayDeque;
import java.util.ArrayList;
import java.util.Arrays;
import java.util.HashMap;
import java.util.HashSet;
import java.util.List;
import java.util.Map;
import java.util.NoSuchElementException;
import java.util.Set;
import java.util.function.Predicate;
import java.util.function.ToIntFunction;

/**
 * The document once more, written as slowly and as plainly as can be, with none of the program's code or ways:
 * texts are split into things first, conditions are objects, searches try all, states are copied whole.
 */
final class Model {
    static final int NONE = -1;

    private static final class Wrong extends Exception {
        private static final long serialVersionUID = 1L;
        final int at;

        Wrong(int at) {
            this.at = at;
        }
    }

    private record Thing(String text, int at) {
        boolean isNumber() {
            return !text.isEmpty() && Character.isDigit(text.charAt(0));
        }
    }

    private record Sign(int sort, int width, int[] left, int[] right) {
        int ink() {
            int ink = 0;
            for (int r = 0; r < 5; r++) {
                ink += width - left[r] - right[r];
            }
            return ink;
        }
    }

    private record Writer(int white, int slip) {
    }

    private record Line(boolean fade, int n, Predicate<Map<String, Integer>> holds) {
    }

    private record Row(int day, int letter, int writer, int change) {
    }

    private static final class State {
        List<Sign> signs = new ArrayList<>();
        List<Integer> word = new ArrayList<>();
        List<Integer> squeeze = new ArrayList<>();
        List<Integer> day = new ArrayList<>();
        List<Integer> distance = new ArrayList<>();
        List<Writer> writers = new ArrayList<>();
        List<Integer> lookers = new ArrayList<>();
        List<Line> law = null;
        List<Row> log = new ArrayList<>();
        int hairs = 60;
        int margin = 2;
        int cap = 12;
        int contrast = 50;
        int shadow = 0;
        int texts = 0;
        int seed = 1;
        int days = 0;
        int wet = NONE;

        State copy() {
            State c = new State();
            c.signs = new ArrayList<>(signs);
            c.word = new ArrayList<>(word);
            c.squeeze = new ArrayList<>(squeeze);
            c.day = new ArrayList<>(day);
            c.distance = new ArrayList<>(distance);
            c.writers = new ArrayList<>(writers);
            c.lookers = new ArrayList<>(lookers);
            c.law = law;
            c.log = new ArrayList<>(log);
            c.hairs = hairs;
            c.margin = margin;
            c.cap = cap;
            c.contrast = contrast;
            c.shadow = shadow;
            c.texts = texts;
            c.seed = seed;
            c.days = days;
            c.wet = wet;
            return c;
        }
    }

    private State s = new State();
    private State kept = null;
    private List<State> past = new ArrayList<>();
    private List<Integer> tape = new ArrayList<>();
    private int fault = NONE;

    // ---- tape and texts

    int feed(int a, int b, int c, int d, int e) {
        if (tape.size() > 380) {
            return NONE;
        }
        for (int n : new int[] {a, b, c, d, e}) {
            tape.add(n >>> 24);
            tape.add(n >>> 16 & 255);
            tape.add(n >>> 8 & 255);
            tape.add(n & 255);
        }
        return tape.size();
    }

    boolean end(int n) {
        if (n < 0 || tape.size() < n) {
            return false;
        }
        tape = new ArrayList<>(tape.subList(0, n));
        return true;
    }

    private List<Integer> used() {
        List<Integer> t = tape;
        tape = new ArrayList<>();
        return t;
    }

    private List<Thing> things(List<Integer> t) {
        StringBuilder all = new StringBuilder();
        for (int b : t) {
            all.append((char) b);
        }
        List<Thing> things = new ArrayList<>();
        java.util.regex.Matcher m = java.util.regex.Pattern.compile("[a-z]+|[0-9]+|[^ ]", java.util.regex.Pattern.DOTALL)
                .matcher(all);
        while (m.find()) {
            things.add(new Thing(m.group(), m.start()));
        }
        things.add(new Thing("", t.size()));
        return things;
    }

    private List<Thing> todo;

    private Thing peek() {
        return todo.get(0);
    }

    private Thing pop() {
        return todo.size() > 1 ? todo.remove(0) : todo.get(0);
    }

    private void word(String w) throws Wrong {
        if (!peek().text.equals(w)) {
            throw new Wrong(peek().at);
        }
        pop();
    }

    private int number(int least, int most) throws Wrong {
        Thing t = peek();
        if (!t.isNumber() || t.text.length() > 3) {
            throw new Wrong(t.at);
        }
        int n = Integer.parseInt(t.text);
        if (n < least || n > most) {
            throw new Wrong(t.at);
        }
        pop();
        return n;
    }

    int shop() {
        List<Integer> t = used();
        State next = s.copy();
        try {
            todo = things(t);
            if (todo.size() > 1) {
                for (int line = 0;; line++) {
                    if (line == 14) {
                        throw new Wrong(peek().at);
                    }
                    shopLine(next);
                    if (peek().text.isEmpty()) {
                        break;
                    }
                    word(";");
                }
            }
            fault = NONE;
        } catch (Wrong w) {
            fault = w.at;
            throw new IllegalArgumentException();
        }
        if (s.texts == 12) {
            throw new UnsupportedOperationException();
        }
        s = next;
        past.clear();
        return ++s.texts;
    }

    private void shopLine(State n) throws Wrong {
        Thing t = peek();
        switch (t.text) {
            case "sign" -> {
                full(n.signs.size(), 12, t);
                int sort = List.of("straight", "round", "slant", "open").indexOf(peek().text);
                if (sort < 0) {
                    throw new Wrong(peek().at);
                }
                pop();
                word("wide");
                int width = number(2, 12);
                word("left");
                int[] left = figures(width, null);
                word("right");
                n.signs.add(new Sign(sort, width, left, figures(width, left)));
            }
            case "board" -> {
                pop();
                n.hairs = number(10, 120);
                word("margin");
                n.margin = number(0, 9);
            }
            case "cap" -> {
                pop();
                n.cap = number(1, 99);
            }
            case "colour" -> {
                pop();
                n.contrast = number(1, 99);
            }
            case "looker" -> {
                full(n.lookers.size(), 8, t);
                n.lookers.add(number(0, 200));
            }
            case "writer" -> {
                full(n.writers.size(), 6, t);
                word("white");
                int white = number(0, 999);
                word("slip");
                n.writers.add(new Writer(white, number(0, 100)));
            }
            case "word" -> {
                pop();
                n.word.clear();
                do {
                    if (n.word.size() == 14) {
                        throw new Wrong(peek().at);
                    }
                    n.word.add(number(0, n.signs.size() - 1));
                } while (peek().isNumber());
                n.squeeze = new ArrayList<>();
                n.day = new ArrayList<>();
                n.distance = new ArrayList<>();
                for (int i = 0; i < n.word.size(); i++) {
                    n.squeeze.add(0);
                    n.day.add(NONE);
                    if (i > 0) {
                        n.distance.add(3);
                    }
                }
                n.wet = NONE;
            }
            default -> throw new Wrong(t.at);
        }
    }

    private void full(int there, int most, Thing t) throws Wrong {
        if (there >= most) {
            throw new Wrong(t.at);
        }
        pop();
    }

    /** The left ones have no other ones yet to be held against. */
    private int[] figures(int width, int[] other) throws Wrong {
        Thing t = peek();
        if (!t.text.matches("[0-9]{5}")) {
            throw new Wrong(t.at);
        }
        int[] f = new int[5];
        for (int r = 0; r < 5; r++) {
            f[r] = t.text.charAt(r) - '0';
            if (other != null && f[r] + other[r] >= width) {
                throw new Wrong(t.at);
            }
        }
        pop();
        return f;
    }

    int law() {
        List<Integer> t = used();
        List<Line> lines = new ArrayList<>();
        try {
            todo = things(t);
            while (todo.size() > 1 || !lines.isEmpty()) {
                Thing first = peek();
                if (lines.size() == 12 || !List.of("weigh", "fade").contains(first.text)) {
                    throw new Wrong(first.at);
                }
                pop();
                boolean fade = first.text.equals("fade");
                int n = number(0, fade ? 99 : 9);
                Predicate<Map<String, Integer>> c = m -> true;
                if (peek().text.equals("if")) {
                    pop();
                    c = choice(6);
                }
                lines.add(new Line(fade, n, c));
                if (peek().text.isEmpty()) {
                    break;
                }
                word(";");
            }
            fault = NONE;
        } catch (Wrong w) {
            fault = w.at;
            throw new IllegalArgumentException();
        }
        s.law = lines;
        past.clear();
        return lines.size();
    }

    private Predicate<Map<String, Integer>> choice(int deeper) throws Wrong {
        Predicate<Map<String, Integer>> c = all(deeper);
        while (peek().text.equals("or")) {
            pop();
            c = c.or(all(deeper));
        }
        return c;
    }

    private Predicate<Map<String, Integer>> all(int deeper) throws Wrong {
        Predicate<Map<String, Integer>> c = atom(deeper);
        while (peek().text.equals("and")) {
            pop();
            c = c.and(atom(deeper));
        }
        return c;
    }

    private Predicate<Map<String, Integer>> atom(int deeper) throws Wrong {
        Thing t = peek();
        switch (t.text) {
            case "not" -> {
                full(0, deeper, t);
                return atom(deeper - 1).negate();
            }
            case "(" -> {
                full(0, deeper, t);
                Predicate<Map<String, Integer>> c = choice(deeper - 1);
                word(")");
                return c;
            }
            case "round", "slant", "open" -> {
                pop();
                return m -> m.get(t.text) == 1;
            }
            default -> {
                ToIntFunction<Map<String, Integer>> one = sum();
                Thing sign = peek();
                if (!sign.text.equals("<") && !sign.text.equals(">")) {
                    throw new Wrong(sign.at);
                }
                pop();
                ToIntFunction<Map<String, Integer>> other = sum();
                return sign.text.equals("<") ? m -> one.applyAsInt(m) < other.applyAsInt(m)
                        : m -> one.applyAsInt(m) > other.applyAsInt(m);
            }
        }
    }

    private ToIntFunction<Map<String, Integer>> sum() throws Wrong {
        ToIntFunction<Map<String, Integer>> one = part();
        if (!peek().text.equals("+")) {
            return one;
        }
        pop();
        ToIntFunction<Map<String, Integer>> rest = sum();
        return m -> one.applyAsInt(m) + rest.applyAsInt(m);
    }

    private ToIntFunction<Map<String, Integer>> part() throws Wrong {
        Thing t = peek();
        if (List.of("row", "gap", "left", "right", "light", "yards").contains(t.text)) {
            pop();
            return m -> m.get(t.text);
        }
        int n = number(0, 999);
        return m -> n;
    }

    int fault() {
        return fault;
    }

    // ---- needs

    private void index(int i, int size) {
        if (i < 0 || i >= size) {
            throw new IndexOutOfBoundsException();
        }
    }

    private void within(int n, int least, int most) {
        if (n < least || n > most) {
            throw new IllegalArgumentException();
        }
    }

    private void what(int what, int most) {
        if (what < 0 || what > most) {
            throw new NoSuchElementException();
        }
    }

    // ---- measures

    private Sign signOf(State t, int letter) {
        return t.signs.get(t.word.get(letter));
    }

    private int width(State t, int letter) {
        return signOf(t, letter).width - t.squeeze.get(letter);
    }

    private int begin(State t, int letter) {
        return letter == 0 ? t.margin : begin(t, letter - 1) + width(t, letter - 1) + t.distance.get(letter - 1);
    }

    private int endOf(State t) {
        int n = t.word.size();
        return n == 0 ? t.margin : begin(t, n - 1) + width(t, n - 1);
    }

    private int space(State t, int gap, int row, int distance) {
        return Math.min(t.cap, signOf(t, gap).right[row] + Math.max(0, distance - t.shadow) + signOf(t, gap + 1).left[row]);
    }

    private Map<String, Integer> facts() {
        Map<String, Integer> m = new HashMap<>();
        for (String name : List.of("row", "gap", "left", "right", "light", "yards", "round", "slant", "open")) {
            m.put(name, 0);
        }
        return m;
    }

    private int weight(State t, int gap, int row, int distance) {
        if (t.law == null) {
            return 1;
        }
        Map<String, Integer> m = facts();
        m.put("row", row);
        m.put("gap", distance);
        m.put("left", signOf(t, gap).right[row]);
        m.put("right", signOf(t, gap + 1).left[row]);
        for (int letter = gap; letter <= gap + 1; letter++) {
            m.put(List.of("straight", "round", "slant", "open").get(signOf(t, letter).sort), 1);
        }
        return t.law.stream().filter(l -> !l.fade && l.holds.test(m)).mapToInt(Line::n).sum();
    }

    private int white(State t, int gap, int distance) {
        int white = 0;
        for (int row = 0; row < 5; row++) {
            white += space(t, gap, row, distance) * weight(t, gap, row, distance);
        }
        return white;
    }

    private int leastSpace(State t, int gap) {
        int least = 1000;
        for (int row = 0; row < 5; row++) {
            least = Math.min(least, space(t, gap, row, t.distance.get(gap)));
        }
        return least;
    }

    private int fading(State t, int yards, int light) {
        if (t.law == null) {
            return 0;
        }
        Map<String, Integer> m = facts();
        m.put("yards", yards);
        m.put("light", light);
        return t.law.stream().filter(l -> l.fade && l.holds.test(m)).mapToInt(Line::n).sum();
    }

    int sign(int sign, int what) {
        index(sign, s.signs.size());
        what(what, 2);
        Sign g = s.signs.get(sign);
        return what == 0 ? g.sort : what == 1 ? g.width : g.ink();
    }

    int side(int sign, int row, boolean right) {
        index(sign, s.signs.size());
        index(row, 5);
        return right ? s.signs.get(sign).right[row] : s.signs.get(sign).left[row];
    }

    int letter(int letter, int what) {
        index(letter, s.word.size());
        what(what, 4);
        return List.of(s.word.get(letter), s.squeeze.get(letter), width(s, letter), begin(s, letter), s.day.get(letter))
                .get(what);
    }

    int gap(int gap, int what) {
        index(gap, s.distance.size());
        what(what, 2);
        int d = s.distance.get(gap);
        return what == 0 ? d : what == 1 ? white(s, gap, d) : leastSpace(s, gap);
    }

    int row(int gap, int row, boolean weight) {
        index(gap, s.distance.size());
        index(row, 5);
        int d = s.distance.get(gap);
        return weight ? weight(s, gap, row, d) : space(s, gap, row, d);
    }

    int fades(int yards, int light) {
        within(yards, 1, 60);
        within(light, 0, 9);
        return fading(s, yards, light);
    }

    // ---- acts

    private void act() {
        past.add(s.copy());
        if (past.size() > 12) {
            past.remove(0);
        }
    }

    int shift(int gap, int distance) {
        index(gap, s.distance.size());
        within(distance, 0, 30);
        act();
        return s.distance.set(gap, distance);
    }

    int squeezed(int letter, int hairs) {
        index(letter, s.word.size());
        within(hairs, 0, 3);
        within(signOf(s, letter).width - hairs, 1, 99);
        act();
        return s.squeeze.set(letter, hairs);
    }

    int shadow(int hairs) {
        within(hairs, 0, 9);
        act();
        int was = s.shadow;
        s.shadow = hairs;
        return was;
    }

    int lays(int white) {
        within(white, 0, 2000);
        List<Integer> l = laying(s, white);
        if (l == null) {
            throw new IllegalStateException();
        }
        act();
        s.distance = new ArrayList<>(l);
        return offOf(s, white);
    }

    int paint(int writer) {
        index(writer, s.writers.size());
        act();
        return day(s, writer);
    }

    private static int draw(State t) {
        t.seed = (int) (1103515245L * t.seed + 12345L);
        return (int) ((t.seed & 0xffffffffL) / 65536 % 32768);
    }

    private static int first(List<Integer> day, int wet) {
        for (int i = 0; i < day.size(); i++) {
            if (day.get(i) == NONE && (wet == NONE || Math.abs(wet - i) != 1)) {
                return i;
            }
        }
        return NONE;
    }

    private static int day(State t, int writer) {
        int letter = first(t.day, t.wet);
        if (letter != NONE) {
            t.day.set(letter, t.days);
            int change = 0;
            if (draw(t) % 100 < t.writers.get(writer).slip && t.word.size() > 1) {
                int gap = letter == t.word.size() - 1 ? letter - 1 : letter;
                int was = t.distance.get(gap);
                int now = was + (draw(t) % 2 == 1 ? 1 : -1);
                if (now >= 0 && now <= 30) {
                    t.distance.set(gap, now);
                    change = now - was;
                }
            }
            t.log.add(0, new Row(t.days, letter, writer, change));
            if (t.log.size() > 60) {
                t.log.remove(60);
            }
        }
        t.wet = letter;
        t.days++;
        return letter;
    }

    int seed(int n) {
        int was = s.seed;
        s.seed = n;
        return was;
    }

    boolean undo() {
        if (past.isEmpty()) {
            return false;
        }
        s = past.remove(past.size() - 1);
        return true;
    }

    void image() {
        kept = s.copy();
    }

    boolean back() {
        if (kept == null) {
            return false;
        }
        s = kept.copy();
        past.clear();
        return true;
    }

    // ---- whites

    private int unevenOf(State t) {
        List<Integer> whites = new ArrayList<>();
        for (int gap = 0; gap < t.distance.size(); gap++) {
            whites.add(white(t, gap, t.distance.get(gap)));
        }
        whites.sort(null);
        return whites.size() < 2 ? 0 : whites.get(whites.size() - 1) - whites.get(0);
    }

    int uneven() {
        return unevenOf(s);
    }

    private int offOf(State t, int white) {
        int off = 0;
        for (int gap = 0; gap < t.distance.size(); gap++) {
            off += Math.abs(white(t, gap, t.distance.get(gap)) - white);
        }
        return off;
    }

    int off(int white) {
        within(white, 0, 2000);
        return offOf(s, white);
    }

    private boolean fitsIn(State t) {
        return endOf(t) + t.shadow <= t.hairs - t.margin;
    }

    boolean fits() {
        return fitsIn(s);
    }

    private record Way(int off, List<Integer> distances) {
    }

    private int[][] whitesOf(State t) {
        int[][] w = new int[t.distance.size()][31];
        for (int gap = 0; gap < w.length; gap++) {
            for (int d = 0; d <= 30; d++) {
                w[gap][d] = white(t, gap, d);
            }
        }
        return w;
    }

    /** From the front on: of all rows of distances with the same sum the least off, then the first. */
    private Way wayOf(State t, int[][] whites, int white) {
        if (t.word.isEmpty()) {
            return null;
        }
        int free = t.hairs - 2 * t.margin - t.shadow;
        for (int i = 0; i < t.word.size(); i++) {
            free -= width(t, i);
        }
        Map<Integer, Way> ways = new HashMap<>();
        ways.put(0, new Way(0, List.of()));
        for (int[] gap : whites) {
            Map<Integer, Way> next = new HashMap<>();
            for (Map.Entry<Integer, Way> e : ways.entrySet()) {
                for (int d = 0; d <= 30 && e.getKey() + d <= free; d++) {
                    List<Integer> more = new ArrayList<>(e.getValue().distances);
                    more.add(d);
                    Way way = new Way(e.getValue().off + Math.abs(gap[d] - white), more);
                    next.merge(e.getKey() + d, way, Model::better);
                }
            }
            ways = next;
        }
        return ways.get(free);
    }

    private static Way better(Way a, Way b) {
        if (a.off != b.off) {
            return a.off < b.off ? a : b;
        }
        int[] x = a.distances.stream().mapToInt(Integer::intValue).toArray();
        int[] y = b.distances.stream().mapToInt(Integer::intValue).toArray();
        return Arrays.compare(x, y) <= 0 ? a : b;
    }

    private List<Integer> laying(State t, int white) {
        Way way = wayOf(t, whitesOf(t), white);
        return way == null ? null : way.distances;
    }

    int laid(int white, int k) {
        within(white, 0, 2000);
        Way way = wayOf(s, whitesOf(s), white);
        if (way == null) {
            return NONE;
        }
        return k == NONE ? way.off : k < 0 || k >= way.distances.size() ? NONE : way.distances.get(k);
    }

    int best(boolean off) {
        int[][] whites = whitesOf(s);
        int best = NONE;
        int least = NONE;
        for (int white = 0; white <= 120; white++) {
            Way way = wayOf(s, whites, white);
            if (way != null && (best == NONE || way.off < least)) {
                best = white;
                least = way.off;
            }
        }
        return off ? least : best;
    }

    int nearest(int gap, int white) {
        index(gap, s.distance.size());
        within(white, 0, 2000);
        int[] whites = whitesOf(s)[gap];
        for (int away = 0;; away++) {
            for (int d = 0; d <= 30; d++) {
                if (Math.abs(whites[d] - white) == away) {
                    return d;
                }
            }
        }
    }

    int cannot(int white) {
        within(white, 0, 2000);
        int bits = 0;
        for (int gap = 0; gap < s.distance.size(); gap++) {
            bits += white(s, gap, 0) > white ? 1 << gap : 0;
        }
        return bits;
    }

    private int shortOf(State t, int[][] whites, int white) {
        int all = 2 * t.margin + t.shadow;
        for (int i = 0; i < t.word.size(); i++) {
            all += width(t, i);
            if (i > 0) {
                int need = 0;
                while (need < 30 && whites[i - 1][need] < white) {
                    need++;
                }
                all += need;
            }
        }
        return all - t.hairs;
    }

    int lacks(int white) {
        within(white, 0, 2000);
        return shortOf(s, whitesOf(s), white);
    }

    int squeeze(int white, boolean which) {
        within(white, 0, 2000);
        int lacks = shortOf(s, whitesOf(s), white);
        int[] by = new int[s.word.size()];
        bestHarm = NONE;
        press(by, 0, 0, lacks);
        return which && bestHarm != NONE ? bestBits : bestHarm;
    }

    private int bestHarm;
    private int bestBits;

    private void press(int[] by, int letter, int harm, int lacks) {
        if (bestHarm != NONE && harm >= bestHarm) {
            return;
        }
        if (letter == by.length) {
            if (lacks <= 0) {
                bestHarm = harm;
                bestBits = 0;
                for (int i = 0; i < by.length; i++) {
                    bestBits += by[i] > 0 ? 1 << i : 0;
                }
            }
            return;
        }
        int most = s.squeeze.get(letter) > 0 ? 0 : 3;
        for (by[letter] = 0; by[letter] <= most && by[letter] < signOf(s, letter).width; by[letter]++) {
            press(by, letter + 1, harm + by[letter] * by[letter] * signOf(s, letter).ink(), lacks - by[letter]);
        }
    }

    int dropped(int white) {
        within(white, 0, 2000);
        State t = s.copy();
        for (int off = 0; !t.word.isEmpty(); off++) {
            if (shortOf(t, whitesOf(t), white) <= 0) {
                return off;
            }
            t.word.remove(t.word.size() - 1);
            if (!t.distance.isEmpty()) {
                t.distance.remove(t.distance.size() - 1);
            }
        }
        return NONE;
    }

    int inch(int white) {
        within(white, 0, 2000);
        State t = s.copy();
        t.hairs += 12;
        Way now = wayOf(s, whitesOf(s), white);
        Way then = wayOf(t, whitesOf(t), white);
        return now == null || then == null ? -9999 : now.off - then.off;
    }

    int middle(boolean askew) {
        int[] ink = new int[700];
        int all = 0;
        for (int i = 0; i < s.word.size(); i++) {
            for (int row = 0; row < 5; row++) {
                for (int h = signOf(s, i).left[row]; h < width(s, i) - signOf(s, i).right[row]; h++) {
                    ink[begin(s, i) + h]++;
                    all++;
                }
            }
        }
        int hair = 0;
        int ahead = 0;
        while (ahead + ahead < all) {
            ahead += ink[hair++];
        }
        return askew ? hair - s.hairs / 2 : hair;
    }

    private boolean readGap(State t, int gap, int yards, int light) {
        return Math.max(0, t.contrast - fading(t, yards, light)) * leastSpace(t, gap) >= yards;
    }

    private boolean readOf(State t, int yards, int light) {
        for (int gap = 0; gap < t.distance.size(); gap++) {
            if (!readGap(t, gap, yards, light)) {
                return false;
            }
        }
        return !t.distance.isEmpty() || t.contrast > fading(t, yards, light);
    }

    boolean read(int yards, int light) {
        within(yards, 1, 60);
        within(light, 0, 9);
        return readOf(s, yards, light);
    }

    int far(int light) {
        within(light, 0, 9);
        for (int yards = 1; yards <= 60; yards++) {
            if (!readOf(s, yards, light)) {
                return yards - 1;
            }
        }
        return 60;
    }

    int runs(int yards, int light) {
        within(yards, 1, 60);
        within(light, 0, 9);
        int bits = 0;
        for (int gap = 0; gap < s.distance.size(); gap++) {
            bits += readGap(s, gap, yards, light) ? 0 : 1 << gap;
        }
        return bits;
    }

    int bears(int yards, int light) {
        within(yards, 1, 60);
        within(light, 0, 9);
        int bears = NONE;
        State t = s.copy();
        for (t.shadow = 0; t.shadow <= 9; t.shadow++) {
            if (fitsIn(t) && readOf(t, yards, light)) {
                bears = t.shadow;
            }
        }
        return bears;
    }

    int lamp() {
        int lamp = 9;
        for (int light = 9; light >= 0; light--) {
            if (far(light) >= far(lamp)) {
                lamp = light;
            }
        }
        return lamp;
    }

    int aslant(int a) {
        within(a, 0, 9);
        State t = s.copy();
        for (int gap = 0; gap < t.distance.size(); gap++) {
            t.distance.set(gap, t.distance.get(gap) * Math.max(0, 100 - a * gap) / 100);
        }
        return unevenOf(t);
    }

    int from() {
        int from = 9;
        for (int a = 9; a >= 0; a--) {
            if (aslant(a) <= aslant(from)) {
                from = a;
            }
        }
        return from;
    }

    int ends(int d) {
        within(d, 0, 30);
        int n = s.word.size();
        if (n < 2) {
            return -999;
        }
        int left = s.margin;
        int right = s.hairs - s.margin - s.shadow;
        int half = (n + 1) / 2;
        for (int i = 0; i < half; i++) {
            left += width(s, i) + (i > 0 ? d : 0);
        }
        for (int i = n - 1; i >= half; i--) {
            right -= width(s, i) + (i < n - 1 ? d : 0);
        }
        return right - left;
    }

    int order(int k) {
        List<Integer> day = new ArrayList<>(s.day);
        List<Integer> order = new ArrayList<>();
        int wet = s.wet;
        while (day.contains(NONE)) {
            wet = first(day, wet);
            order.add(wet);
            if (wet != NONE) {
                day.set(wet, 0);
            }
        }
        return k == NONE ? order.size() : k < 0 || k >= order.size() ? NONE : order.get(k);
    }

    int brush() {
        int left = 0;
        for (int i = 0; i < s.day.size(); i++) {
            left |= s.day.get(i) == NONE ? 1 << i : 0;
        }
        return Integer.bitCount(left) > 12 ? -3 : search(left, s.wet);
    }

    /** Day by day, all that can be. */
    static int search(int left, int wet) {
        Set<Integer> now = new HashSet<>();
        now.add(left * 32 + wet + 1);
        Set<Integer> seen = new HashSet<>(now);
        for (int days = 0;; days++) {
            Set<Integer> next = new HashSet<>();
            for (int state : now) {
                int l = state / 32;
                int w = state % 32 - 1;
                if (l == 0) {
                    return days;
                }
                ArrayDeque<Integer> more = new ArrayDeque<>();
                more.add(l * 32);
                for (int i = 0; i < 14; i++) {
                    if ((l >> i & 1) == 1 && (w == NONE || Math.abs(i - w) != 1)) {
                        more.add((l - (1 << i)) * 32 + i + 1);
                    }
                }
                for (int m : more) {
                    if (seen.add(m)) {
                        next.add(m);
                    }
                }
            }
            now = next;
        }
    }

    private List<Integer> whitesTold(List<Integer> t) {
        if (t.size() % 2 == 1) {
            throw new IllegalArgumentException();
        }
        List<Integer> whites = new ArrayList<>();
        for (int i = 0; i < t.size(); i += 2) {
            whites.add(t.get(i) * 256 + t.get(i + 1));
        }
        return whites;
    }

    int wrote() {
        List<Integer> whites = whitesTold(used());
        int wrote = NONE;
        long least = Long.MAX_VALUE;
        for (int w = 0; w < s.writers.size(); w++) {
            int aim = s.writers.get(w).white;
            long off = whites.stream().mapToLong(x -> Math.abs(x - aim)).sum();
            if (off < least) {
                least = off;
                wrote = w;
            }
        }
        return wrote;
    }

    int likely(int writer) {
        List<Integer> t = used();
        index(writer, s.writers.size());
        int aim = s.writers.get(writer).white;
        return (int) whitesTold(t).stream().filter(x -> x >= aim - 10 && x <= aim + 10).count();
    }

    int lookers(boolean twos) {
        List<Boolean> even = new ArrayList<>();
        for (int looker : s.lookers) {
            even.add(uneven() < looker);
        }
        int n = 0;
        for (int i = 0; i < even.size(); i++) {
            n += !twos && even.get(i) ? 1 : 0;
            for (int j = 0; j < i; j++) {
                n += twos && even.get(i).equals(even.get(j)) ? 1 : 0;
            }
        }
        return n;
    }

    private State tried(int writer, int n, int seed) {
        State t = s.copy();
        t.seed = seed;
        for (int i = 0; i < n; i++) {
            day(t, writer);
        }
        return t;
    }

    int trial(int writer, int n, boolean painted) {
        index(writer, s.writers.size());
        within(n, 0, 40);
        State t = tried(writer, n, s.seed);
        return painted ? (int) t.day.stream().filter(d -> d != NONE).count() : unevenOf(t);
    }

    int span(int writer, int n, boolean most) {
        index(writer, s.writers.size());
        within(n, 0, 40);
        List<Integer> all = new ArrayList<>();
        for (int seed = 1; seed <= 6; seed++) {
            all.add(unevenOf(tried(writer, n, seed)));
        }
        all.sort(null);
        return most ? all.get(5) : all.get(0);
    }

    int slips(int writer) {
        if (writer != NONE) {
            index(writer, s.writers.size());
        }
        return (int) s.log.stream().filter(r -> r.change != 0 && (writer == NONE || r.writer == writer)).count();
    }

    int log(int ago, int what) {
        what(what, 3);
        if (ago < 0 || ago >= s.log.size()) {
            return -99;
        }
        Row r = s.log.get(ago);
        return List.of(r.day, r.letter, r.writer, r.change).get(what);
    }

    int count(int what) {
        int painted = 0;
        for (int i = 0; i < s.day.size(); i++) {
            painted |= s.day.get(i) != NONE ? 1 << i : 0;
        }
        List<Integer> all = List.of(s.signs.size(), s.word.size(), s.hairs, s.margin, s.cap, s.shadow, s.contrast,
                s.writers.size(), s.lookers.size());
        List<Integer> more = List.of(s.texts, s.law == null ? NONE : s.law.size(), s.days, endOf(s), painted,
                s.log.size(), past.size());
        return what < 0 || what > 15 ? NONE : what < 9 ? all.get(what) : more.get(what - 9);
    }
}
