import java.util.Arrays;
import java.util.NoSuchElementException;

/** A board on which letters are to stand evenly; the document's promises are told there, not here. */
public final class SignBoard {
    public static final int NONE = -1;

    private static final int ROWS = 5;
    private static final int MOST_SIGNS = 12;
    private static final int MOST_LETTERS = 14;
    private static final int MOST_GAPS = 13;
    private static final int MOST_WRITERS = 6;
    private static final int MOST_LOOKERS = 8;
    private static final int MOST_TEXTS = 12;
    private static final int WIDEST_GAP = 30;
    private static final int MOST_SQUEEZE = 3;
    private static final int MOST_SHADOW = 9;
    private static final int MOST_LIGHT = 9;
    private static final int MOST_YARDS = 60;
    private static final int MOST_WHITE = 2000;
    private static final int BEST_WHITES = 120;
    private static final int MOST_SLANT = 9;
    private static final int MOST_TRIAL_DAYS = 40;
    private static final int SPAN_SEEDS = 6;
    private static final int INCH = 12;
    private static final int NEAR_WHITE = 10;
    private static final int NO_ENDS = -999;
    private static final int NO_INCH = -9999;
    private static final int NO_LOG = -99;

    private final Tape tape;
    private final Shop shop;
    private final Law law;
    private final Work work;
    private final Gauge gauge;
    private final Laying laying;
    private final Press press;
    private final History history;
    private final ShopReader shopReader;
    private final LawReader lawReader;
    private final Work trialWork;
    private final Shop imageShop;
    private final Law imageLaw;
    private final Work imageWork;
    private boolean imageKept;
    private int wrongByte;

    public SignBoard() {
        tape = new Tape();
        shop = new Shop();
        law = new Law();
        work = new Work();
        gauge = new Gauge(shop, law, work);
        laying = new Laying(shop, gauge);
        press = new Press(shop, work, gauge);
        history = new History();
        shopReader = new ShopReader(tape);
        lawReader = new LawReader(tape);
        trialWork = new Work();
        imageShop = new Shop();
        imageLaw = new Law();
        imageWork = new Work();
        imageKept = false;
        wrongByte = NONE;
    }

    // ---- the tape and the texts

    public int feed(int a, int b, int c, int d, int e) {
        if (!tape.hasRoomFor(20)) {
            return NONE;
        }
        tape.addNumber(a);
        tape.addNumber(b);
        tape.addNumber(c);
        tape.addNumber(d);
        tape.addNumber(e);
        return tape.length;
    }

    public boolean end(int n) {
        if (n < 0 || n > tape.length) {
            return false;
        }
        tape.length = n;
        return true;
    }

    public int shop() throws IllegalArgumentException, UnsupportedOperationException {
        shopReader.beginFrom(shop);
        boolean right = shopReader.readsText();
        useUp(right);
        if (!right) {
            throw new IllegalArgumentException("the text of the shop is wrong");
        }
        if (shop.texts >= MOST_TEXTS) {
            throw new UnsupportedOperationException("there are 12 texts of the shop");
        }
        shop.copyFrom(shopReader.draft);
        shop.texts++;
        if (shopReader.newWord) {
            work.beginWord();
        }
        forgetActs();
        return shop.texts;
    }

    public int law() throws IllegalArgumentException {
        lawReader.draft.begin();
        boolean right = lawReader.readsText();
        useUp(right);
        if (!right) {
            throw new IllegalArgumentException("the text of the law is wrong");
        }
        law.copyFrom(lawReader.draft);
        forgetActs();
        return law.lines;
    }

    public int fault() {
        return wrongByte;
    }

    private void useUp(boolean right) {
        wrongByte = right ? NONE : tape.begin;
        tape.length = 0;
    }

    private void forgetActs() {
        history.clear();
        gauge.forgetWhites();
    }

    // ---- what there is

    public int sign(int sign, int what) throws IndexOutOfBoundsException, NoSuchElementException {
        needSign(sign);
        switch (what) {
            case 0:
                return shop.sorts[sign];
            case 1:
                return shop.widths[sign];
            case 2:
                return shop.inkOf(sign);
            default:
                throw new NoSuchElementException("no such thing of a sign");
        }
    }

    public int side(int sign, int row, boolean right) throws IndexOutOfBoundsException {
        needSign(sign);
        needRow(row);
        return right ? shop.rightOf(sign, row) : shop.leftOf(sign, row);
    }

    public int letter(int letter, int what) throws IndexOutOfBoundsException, NoSuchElementException {
        needLetter(letter);
        switch (what) {
            case 0:
                return shop.word[letter];
            case 1:
                return work.squeezes[letter];
            case 2:
                return gauge.widthOf(letter);
            case 3:
                return gauge.beginOf(letter);
            case 4:
                return work.paintedOn[letter];
            default:
                throw new NoSuchElementException("no such thing of a letter");
        }
    }

    public int gap(int gap, int what) throws IndexOutOfBoundsException, NoSuchElementException {
        needGap(gap);
        int distance = work.distances[gap];
        switch (what) {
            case 0:
                return distance;
            case 1:
                return gauge.whiteOf(gap, distance);
            case 2:
                return gauge.leastSpace(gap, distance, work.shadow);
            default:
                throw new NoSuchElementException("no such thing of a gap");
        }
    }

    public int row(int gap, int row, boolean weight) throws IndexOutOfBoundsException {
        needGap(gap);
        needRow(row);
        int distance = work.distances[gap];
        return weight ? gauge.weightOf(gap, row, distance) : gauge.spaceOf(gap, row, distance, work.shadow);
    }

    public int fades(int yards, int light) throws IllegalArgumentException {
        needYards(yards);
        needLight(light);
        return gauge.fadingAt(yards, light);
    }

    public int count(int what) {
        switch (what) {
            case 0:
                return shop.signs;
            case 1:
                return shop.letters;
            case 2:
                return shop.hairs;
            case 3:
                return shop.margin;
            case 4:
                return shop.cap;
            case 5:
                return work.shadow;
            case 6:
                return shop.contrast;
            case 7:
                return shop.writers;
            case 8:
                return shop.lookers;
            case 9:
                return shop.texts;
            case 10:
                return law.lines;
            case 11:
                return work.days;
            case 12:
                return gauge.endOfWord();
            case 13:
                return work.painted;
            case 14:
                return work.logRows;
            case 15:
                return history.size;
            default:
                return NONE;
        }
    }

    // ---- the acts

    public int shift(int gap, int distance) throws IndexOutOfBoundsException, IllegalArgumentException {
        needGap(gap);
        needDistance(distance);
        history.remember(work);
        int was = work.distances[gap];
        work.distances[gap] = distance;
        return was;
    }

    public int squeezed(int letter, int hairs) throws IndexOutOfBoundsException, IllegalArgumentException {
        needLetter(letter);
        if (hairs < 0 || hairs > MOST_SQUEEZE || shop.widths[shop.word[letter]] - hairs < 1) {
            throw new IllegalArgumentException("a letter cannot be squeezed by so many");
        }
        history.remember(work);
        int was = work.squeezes[letter];
        work.squeezes[letter] = hairs;
        return was;
    }

    public int shadow(int hairs) throws IllegalArgumentException {
        if (hairs < 0 || hairs > MOST_SHADOW) {
            throw new IllegalArgumentException("no such shadow");
        }
        history.remember(work);
        int was = work.shadow;
        work.shadow = hairs;
        gauge.forgetWhites();
        return was;
    }

    public int lays(int white) throws IllegalArgumentException, IllegalStateException {
        needWhite(white);
        int off = laying.leastOff(white, 0);
        if (off == NONE) {
            throw new IllegalStateException("no distances end just at the margin");
        }
        history.remember(work);
        laying.putDistances(work.distances);
        return off;
    }

    public int paint(int writer) throws IndexOutOfBoundsException {
        needWriter(writer);
        history.remember(work);
        return work.paintDay(writer, shop.slipRates[writer], shop.letters);
    }

    public int seed(int n) {
        int was = work.seed;
        work.seed = n;
        return was;
    }

    public boolean undo() {
        if (!history.recall(work)) {
            return false;
        }
        gauge.forgetWhites();
        return true;
    }

    public void image() {
        imageShop.copyFrom(shop);
        imageLaw.copyFrom(law);
        imageWork.copyFrom(work);
        imageKept = true;
    }

    public boolean back() {
        if (!imageKept) {
            return false;
        }
        shop.copyFrom(imageShop);
        law.copyFrom(imageLaw);
        work.copyFrom(imageWork);
        forgetActs();
        return true;
    }

    // ---- what is asked of the whites

    public int uneven() {
        return gauge.unevenBy(work.distances, 0);
    }

    public int off(int white) throws IllegalArgumentException {
        needWhite(white);
        int off = 0;
        for (int gap = 0; gap < shop.gapCount(); gap++) {
            off += Math.abs(gauge.whiteOf(gap, work.distances[gap]) - white);
        }
        return off;
    }

    public boolean fits() {
        return gauge.fitsWith(work.shadow);
    }

    public int laid(int white, int k) throws IllegalArgumentException {
        needWhite(white);
        int off = laying.leastOff(white, 0);
        if (off == NONE || k == NONE) {
            return off;
        }
        return k < 0 || k >= shop.gapCount() ? NONE : laying.distanceOf(k);
    }

    public int best(boolean off) {
        int bestWhite = 0;
        int bestOff = laying.leastOff(0, 0);
        if (bestOff == NONE) {
            return NONE;
        }
        int white = 1;
        while (white <= BEST_WHITES && bestOff > 0) {
            int now = laying.leastOff(white, 0);
            if (now < bestOff) {
                bestOff = now;
                bestWhite = white;
            }
            // one white more makes it less off by one for each gap at most: till then none can be better
            white += 1 + (now - bestOff) / Math.max(1, shop.gapCount());
        }
        return off ? bestOff : bestWhite;
    }

    public int nearest(int gap, int white) throws IndexOutOfBoundsException, IllegalArgumentException {
        needGap(gap);
        needWhite(white);
        int nearest = 0;
        for (int distance = 1; distance <= WIDEST_GAP; distance++) {
            int away = Math.abs(gauge.whiteOf(gap, distance) - white);
            if (away < Math.abs(gauge.whiteOf(gap, nearest) - white)) {
                nearest = distance;
            }
        }
        return nearest;
    }

    public int cannot(int white) throws IllegalArgumentException {
        needWhite(white);
        int bits = 0;
        for (int gap = 0; gap < shop.gapCount(); gap++) {
            if (gauge.whiteOf(gap, 0) > white) {
                bits |= 1 << gap;
            }
        }
        return bits;
    }

    public int lacks(int white) throws IllegalArgumentException {
        needWhite(white);
        return gauge.lackingBy(white, shop.letters);
    }

    public int squeeze(int white, boolean which) throws IllegalArgumentException {
        needWhite(white);
        int harm = press.leastHarm(gauge.lackingBy(white, shop.letters));
        return harm == NONE || !which ? harm : press.squeezedBits();
    }

    public int dropped(int white) throws IllegalArgumentException {
        needWhite(white);
        for (int off = 0; off < shop.letters; off++) {
            if (gauge.lackingBy(white, shop.letters - off) <= 0) {
                return off;
            }
        }
        return NONE;
    }

    public int inch(int white) throws IllegalArgumentException {
        needWhite(white);
        int now = laying.leastOff(white, 0);
        int longer = laying.leastOff(white, INCH);
        return now == NONE || longer == NONE ? NO_INCH : now - longer;
    }

    // ---- how it looks

    public int middle(boolean askew) {
        int middle = gauge.middleHair();
        return askew ? middle - shop.hairs / 2 : middle;
    }

    public boolean read(int yards, int light) throws IllegalArgumentException {
        needYards(yards);
        needLight(light);
        return gauge.isRead(yards, light, gauge.tightestSpace(work.shadow));
    }

    public int far(int light) throws IllegalArgumentException {
        needLight(light);
        return gauge.farthestBy(light);
    }

    public int runs(int yards, int light) throws IllegalArgumentException {
        needYards(yards);
        needLight(light);
        int clear = gauge.clearness(yards, light);
        int bits = 0;
        for (int gap = 0; gap < shop.gapCount(); gap++) {
            if (clear * gauge.leastSpace(gap, work.distances[gap], work.shadow) < yards) {
                bits |= 1 << gap;
            }
        }
        return bits;
    }

    public int bears(int yards, int light) throws IllegalArgumentException {
        needYards(yards);
        needLight(light);
        for (int shadow = MOST_SHADOW; shadow >= 0; shadow--) {
            if (gauge.fitsWith(shadow) && gauge.isRead(yards, light, gauge.tightestSpace(shadow))) {
                return shadow;
            }
        }
        return NONE;
    }

    public int lamp() {
        int lamp = 0;
        int most = NONE;
        for (int light = 0; light <= MOST_LIGHT; light++) {
            int far = gauge.farthestBy(light);
            if (far > most) {
                most = far;
                lamp = light;
            }
        }
        return lamp;
    }

    public int aslant(int a) throws IllegalArgumentException {
        if (a < 0 || a > MOST_SLANT) {
            throw new IllegalArgumentException("no such slant");
        }
        return gauge.unevenBy(work.distances, a);
    }

    public int from() {
        int from = 0;
        int least = gauge.unevenBy(work.distances, 0);
        for (int slant = 1; slant <= MOST_SLANT; slant++) {
            int uneven = gauge.unevenBy(work.distances, slant);
            if (uneven < least) {
                least = uneven;
                from = slant;
            }
        }
        return from;
    }

    public int ends(int d) throws IllegalArgumentException {
        needDistance(d);
        if (shop.letters < 2) {
            return NO_ENDS;
        }
        // between the letters of the two parts lie all distances D but the one asked for
        return gauge.freeHairs(0) - d * (shop.letters - 2);
    }

    // ---- painting, writers, lookers

    public int order(int k) {
        return work.orderOf(k, shop.letters);
    }

    public int brush() {
        return work.fewestDays(shop.letters);
    }

    public int wrote() throws IllegalArgumentException {
        int bytes = useUpWhites();
        if (bytes % 2 != 0) {
            throw new IllegalArgumentException("a white has two bytes");
        }
        int wrote = NONE;
        int least = 0;
        for (int writer = 0; writer < shop.writers; writer++) {
            int off = 0;
            for (int at = 0; at + 1 < bytes; at += 2) {
                off += Math.abs(tape.pairAt(at) - shop.aims[writer]);
            }
            if (wrote == NONE || off < least) {
                wrote = writer;
                least = off;
            }
        }
        return wrote;
    }

    public int likely(int writer) throws IndexOutOfBoundsException, IllegalArgumentException {
        int bytes = useUpWhites();
        needWriter(writer);
        if (bytes % 2 != 0) {
            throw new IllegalArgumentException("a white has two bytes");
        }
        int near = 0;
        for (int at = 0; at + 1 < bytes; at += 2) {
            if (Math.abs(tape.pairAt(at) - shop.aims[writer]) <= NEAR_WHITE) {
                near++;
            }
        }
        return near;
    }

    /** The bytes stay readable behind the tape's new end, so that a call may still look at them. */
    private int useUpWhites() {
        int bytes = tape.length;
        tape.length = 0;
        return bytes;
    }

    public int lookers(boolean twos) {
        int uneven = gauge.unevenBy(work.distances, 0);
        int even = 0;
        for (int looker = 0; looker < shop.lookers; looker++) {
            if (uneven < shop.sees[looker]) {
                even++;
            }
        }
        int others = shop.lookers - even;
        return twos ? even * (even - 1) / 2 + others * (others - 1) / 2 : even;
    }

    public int trial(int writer, int n, boolean painted) throws IndexOutOfBoundsException, IllegalArgumentException {
        needWriter(writer);
        needTrialDays(n);
        tryDays(writer, n, work.seed);
        return painted ? Integer.bitCount(trialWork.painted) : gauge.unevenBy(trialWork.distances, 0);
    }

    public int span(int writer, int n, boolean most) throws IndexOutOfBoundsException, IllegalArgumentException {
        needWriter(writer);
        needTrialDays(n);
        int span = NONE;
        for (int seed = 1; seed <= SPAN_SEEDS; seed++) {
            tryDays(writer, n, seed);
            int uneven = gauge.unevenBy(trialWork.distances, 0);
            if (span == NONE || (most ? uneven > span : uneven < span)) {
                span = uneven;
            }
        }
        return span;
    }

    private void tryDays(int writer, int days, int seed) {
        trialWork.copyFrom(work);
        trialWork.seed = seed;
        for (int day = 0; day < days; day++) {
            trialWork.paintDay(writer, shop.slipRates[writer], shop.letters);
        }
    }

    public int slips(int writer) throws IndexOutOfBoundsException {
        if (writer != NONE) {
            needWriter(writer);
        }
        int slips = 0;
        for (int ago = 0; ago < work.logRows; ago++) {
            boolean counts = writer == NONE || work.logged(ago, Work.LOG_WRITER) == writer;
            if (counts && work.logged(ago, Work.LOG_CHANGE) != 0) {
                slips++;
            }
        }
        return slips;
    }

    public int log(int ago, int what) throws NoSuchElementException {
        if (what < 0 || what >= Work.LOG_FIELDS) {
            throw new NoSuchElementException("no such thing of the log");
        }
        return ago < 0 || ago >= work.logRows ? NO_LOG : work.logged(ago, what);
    }

    // ---- what a call must be told

    private void needSign(int sign) {
        if (sign < 0 || sign >= shop.signs) {
            throw new IndexOutOfBoundsException("no such sign");
        }
    }

    private void needRow(int row) {
        if (row < 0 || row >= ROWS) {
            throw new IndexOutOfBoundsException("no such row");
        }
    }

    private void needLetter(int letter) {
        if (letter < 0 || letter >= shop.letters) {
            throw new IndexOutOfBoundsException("no such letter");
        }
    }

    private void needGap(int gap) {
        if (gap < 0 || gap >= shop.gapCount()) {
            throw new IndexOutOfBoundsException("no such gap");
        }
    }

    private void needWriter(int writer) {
        if (writer < 0 || writer >= shop.writers) {
            throw new IndexOutOfBoundsException("no such writer");
        }
    }

    private void needDistance(int distance) {
        if (distance < 0 || distance > WIDEST_GAP) {
            throw new IllegalArgumentException("no such distance");
        }
    }

    private void needWhite(int white) {
        if (white < 0 || white > MOST_WHITE) {
            throw new IllegalArgumentException("no such white");
        }
    }

    private void needYards(int yards) {
        if (yards < 1 || yards > MOST_YARDS) {
            throw new IllegalArgumentException("no such yards");
        }
    }

    private void needLight(int light) {
        if (light < 0 || light > MOST_LIGHT) {
            throw new IllegalArgumentException("no such light");
        }
    }

    private void needTrialDays(int days) {
        if (days < 0 || days > MOST_TRIAL_DAYS) {
            throw new IllegalArgumentException("no such number of days");
        }
    }

    /** The bytes that were fed, and the things of a text one behind another: words, numbers, marks. */
    private static final class Tape {
        static final int ROOM = 400;
        static final int MOST_DIGITS = 3;
        static final int AT_END = 0;
        static final int WORD = 1;
        static final int NUMBER = 2;
        static final int MARK = 3;

        final int[] bytes;
        int length;
        int kind;
        int begin;
        int behind;

        Tape() {
            bytes = new int[ROOM];
        }

        boolean hasRoomFor(int more) {
            return length + more <= ROOM;
        }

        void addNumber(int number) {
            for (int shift = 24; shift >= 0; shift -= 8) {
                if (length < ROOM) {
                    bytes[length] = (number >>> shift) & 255;
                    length++;
                }
            }
        }

        int pairAt(int at) {
            return at < 0 || at + 1 >= ROOM ? 0 : bytes[at] * 256 + bytes[at + 1];
        }

        void rewind() {
            behind = 0;
            step();
        }

        void step() {
            int at = behind;
            while (at < length && bytes[at] == ' ') {
                at++;
            }
            begin = at;
            kind = at < length ? kindOf(bytes[at]) : AT_END;
            if (kind == MARK) {
                at++;
            } else {
                while (at < length && kindOf(bytes[at]) == kind) {
                    at++;
                }
            }
            behind = at;
        }

        static int kindOf(int sign) {
            if (sign >= 'a' && sign <= 'z') {
                return WORD;
            }
            return sign >= '0' && sign <= '9' ? NUMBER : MARK;
        }

        boolean isWord(String word) {
            if (kind != WORD || behind - begin != word.length()) {
                return false;
            }
            for (int i = 0; i < word.length(); i++) {
                if (bytes[begin + i] != word.charAt(i)) {
                    return false;
                }
            }
            return true;
        }

        boolean isMark(char mark) {
            return kind == MARK && bytes[begin] == mark;
        }

        boolean takesWord(String word) {
            if (!isWord(word)) {
                return false;
            }
            step();
            return true;
        }

        boolean takesMark(char mark) {
            if (!isMark(mark)) {
                return false;
            }
            step();
            return true;
        }

        /** The number that stands here, or NONE if none within the bounds does. */
        int numberWithin(int least, int most) {
            if (kind != NUMBER || behind - begin > MOST_DIGITS) {
                return NONE;
            }
            int number = 0;
            for (int at = begin; at < behind; at++) {
                number = number * 10 + bytes[at] - '0';
            }
            return number < least || number > most ? NONE : number;
        }

        boolean isFigures() {
            return kind == NUMBER && behind - begin == ROWS;
        }

        int figureOf(int row) {
            return bytes[begin + row] - '0';
        }
    }

    /** Reads a text line by line; where it is wrong, the tape stands still at the wrong thing. */
    private abstract static class TextReader {
        final Tape tape;
        final int mostLines;

        TextReader(Tape tape, int mostLines) {
            this.tape = tape;
            this.mostLines = mostLines;
        }

        abstract boolean readsLine();

        boolean readsText() {
            tape.rewind();
            if (tape.kind == Tape.AT_END) {
                return true;
            }
            for (int line = 0; line < mostLines; line++) {
                if (!readsLine()) {
                    return false;
                }
                if (tape.kind == Tape.AT_END) {
                    return true;
                }
                if (!tape.takesMark(';')) {
                    return false;
                }
            }
            return false;
        }

        /** The number, and the tape stands behind it; NONE, and the tape stands still, if it is wrong. */
        int readNumber(int least, int most) {
            int number = tape.numberWithin(least, most);
            if (number != NONE) {
                tape.step();
            }
            return number;
        }
    }

    /** What the texts of the shop tell. */
    private static final class Shop {
        int signs;
        final int[] sorts;
        final int[] widths;
        final int[] lefts;
        final int[] rights;
        int letters;
        final int[] word;
        int hairs;
        int margin;
        int cap;
        int contrast;
        int writers;
        final int[] aims;
        final int[] slipRates;
        int lookers;
        final int[] sees;
        int texts;

        Shop() {
            sorts = new int[MOST_SIGNS];
            widths = new int[MOST_SIGNS];
            lefts = new int[MOST_SIGNS * ROWS];
            rights = new int[MOST_SIGNS * ROWS];
            word = new int[MOST_LETTERS];
            hairs = 60;
            margin = 2;
            cap = 12;
            contrast = 50;
            aims = new int[MOST_WRITERS];
            slipRates = new int[MOST_WRITERS];
            sees = new int[MOST_LOOKERS];
        }

        void copyFrom(Shop other) {
            signs = other.signs;
            System.arraycopy(other.sorts, 0, sorts, 0, MOST_SIGNS);
            System.arraycopy(other.widths, 0, widths, 0, MOST_SIGNS);
            System.arraycopy(other.lefts, 0, lefts, 0, MOST_SIGNS * ROWS);
            System.arraycopy(other.rights, 0, rights, 0, MOST_SIGNS * ROWS);
            letters = other.letters;
            System.arraycopy(other.word, 0, word, 0, MOST_LETTERS);
            hairs = other.hairs;
            margin = other.margin;
            cap = other.cap;
            contrast = other.contrast;
            writers = other.writers;
            System.arraycopy(other.aims, 0, aims, 0, MOST_WRITERS);
            System.arraycopy(other.slipRates, 0, slipRates, 0, MOST_WRITERS);
            lookers = other.lookers;
            System.arraycopy(other.sees, 0, sees, 0, MOST_LOOKERS);
            texts = other.texts;
        }

        int gapCount() {
            return letters > 1 ? letters - 1 : 0;
        }

        int leftOf(int sign, int row) {
            return lefts[sign * ROWS + row];
        }

        int rightOf(int sign, int row) {
            return rights[sign * ROWS + row];
        }

        int inkOf(int sign) {
            int ink = 0;
            for (int row = 0; row < ROWS; row++) {
                ink += widths[sign] - leftOf(sign, row) - rightOf(sign, row);
            }
            return ink;
        }
    }

    /** Reads a text of the shop into a draft. */
    private static final class ShopReader extends TextReader {
        static final int MOST_LINES = 14;

        final Shop draft;
        boolean newWord;

        ShopReader(Tape tape) {
            super(tape, MOST_LINES);
            draft = new Shop();
        }

        void beginFrom(Shop shop) {
            draft.copyFrom(shop);
            newWord = false;
        }

        boolean readsLine() {
            if (tape.isWord("sign")) {
                return readsSign();
            }
            if (tape.isWord("writer")) {
                return readsWriter();
            }
            if (tape.isWord("looker")) {
                return readsLooker();
            }
            if (tape.takesWord("board")) {
                return readsBoard();
            }
            if (tape.takesWord("cap")) {
                draft.cap = readNumber(1, 99);
                return draft.cap != NONE;
            }
            if (tape.takesWord("colour")) {
                draft.contrast = readNumber(1, 99);
                return draft.contrast != NONE;
            }
            return tape.takesWord("word") && readsWord();
        }

        private boolean readsSign() {
            int sign = draft.signs;
            if (sign >= MOST_SIGNS) {
                return false;
            }
            tape.step();
            int sort = sortHere();
            if (sort == NONE) {
                return false;
            }
            tape.step();
            if (!tape.takesWord("wide")) {
                return false;
            }
            int width = readNumber(2, 12);
            if (width == NONE) {
                return false;
            }
            draft.sorts[sign] = sort;
            draft.widths[sign] = width;
            if (!readsSides(sign)) {
                return false;
            }
            draft.signs++;
            return true;
        }

        private int sortHere() {
            if (tape.isWord("straight")) {
                return 0;
            }
            if (tape.isWord("round")) {
                return 1;
            }
            if (tape.isWord("slant")) {
                return 2;
            }
            return tape.isWord("open") ? 3 : NONE;
        }

        private boolean readsSides(int sign) {
            if (!tape.takesWord("left") || !tape.isFigures()) {
                return false;
            }
            for (int row = 0; row < ROWS; row++) {
                draft.lefts[sign * ROWS + row] = tape.figureOf(row);
            }
            tape.step();
            if (!tape.takesWord("right") || !tape.isFigures()) {
                return false;
            }
            for (int row = 0; row < ROWS; row++) {
                int right = tape.figureOf(row);
                if (draft.leftOf(sign, row) + right >= draft.widths[sign]) {
                    return false;
                }
                draft.rights[sign * ROWS + row] = right;
            }
            tape.step();
            return true;
        }

        private boolean readsBoard() {
            draft.hairs = readNumber(10, 120);
            if (draft.hairs == NONE || !tape.takesWord("margin")) {
                return false;
            }
            draft.margin = readNumber(0, 9);
            return draft.margin != NONE;
        }

        private boolean readsWord() {
            newWord = true;
            draft.letters = 0;
            for (int letter = 0; letter < MOST_LETTERS; letter++) {
                int sign = readNumber(0, draft.signs - 1);
                if (sign == NONE) {
                    return false;
                }
                draft.word[letter] = sign;
                draft.letters++;
                if (tape.kind != Tape.NUMBER) {
                    return true;
                }
            }
            return false;
        }

        private boolean readsWriter() {
            int writer = draft.writers;
            if (writer >= MOST_WRITERS) {
                return false;
            }
            tape.step();
            if (!tape.takesWord("white")) {
                return false;
            }
            draft.aims[writer] = readNumber(0, 999);
            if (draft.aims[writer] == NONE || !tape.takesWord("slip")) {
                return false;
            }
            draft.slipRates[writer] = readNumber(0, 100);
            draft.writers++;
            return draft.slipRates[writer] != NONE;
        }

        private boolean readsLooker() {
            int looker = draft.lookers;
            if (looker >= MOST_LOOKERS) {
                return false;
            }
            tape.step();
            draft.sees[looker] = readNumber(0, 200);
            draft.lookers++;
            return draft.sees[looker] != NONE;
        }
    }

    /** The law's lines; conditions stand in one row of code, each operator behind what it joins. */
    private static final class Law {
        static final int MOST_LINES = 12;
        static final int ROOM = Tape.ROOM;
        static final int WEIGH = 0;
        static final int FADE = 1;

        // code below FACTS is a number, below OPERATORS a fact, and from there on an operator
        static final int FACTS = 1000;
        static final int ROW = 0;
        static final int GAP = 1;
        static final int LEFT = 2;
        static final int RIGHT = 3;
        static final int LIGHT = 4;
        static final int YARDS = 5;
        static final int ROUND = 6;
        static final int SLANT = 7;
        static final int OPEN = 8;
        static final int FACT_COUNT = 9;
        static final int OPERATORS = FACTS + FACT_COUNT;
        static final int PLUS = OPERATORS;
        static final int LESS = OPERATORS + 1;
        static final int MORE = OPERATORS + 2;
        static final int AND = OPERATORS + 3;
        static final int OR = OPERATORS + 4;
        static final int NOT = OPERATORS + 5;

        int lines;
        final int[] kinds;
        final int[] amounts;
        final int[] codeEnds;
        final int[] code;
        int codeSize;

        Law() {
            lines = NONE;
            kinds = new int[MOST_LINES];
            amounts = new int[MOST_LINES];
            codeEnds = new int[MOST_LINES];
            code = new int[ROOM];
        }

        void copyFrom(Law other) {
            lines = other.lines;
            System.arraycopy(other.kinds, 0, kinds, 0, MOST_LINES);
            System.arraycopy(other.amounts, 0, amounts, 0, MOST_LINES);
            System.arraycopy(other.codeEnds, 0, codeEnds, 0, MOST_LINES);
            System.arraycopy(other.code, 0, code, 0, ROOM);
            codeSize = other.codeSize;
        }

        void begin() {
            lines = 0;
            codeSize = 0;
        }

        void put(int item) {
            if (codeSize < ROOM) {
                code[codeSize] = item;
                codeSize++;
            }
        }

        void endLine(int kind, int amount) {
            if (lines < MOST_LINES) {
                kinds[lines] = kind;
                amounts[lines] = amount;
                codeEnds[lines] = codeSize;
                lines++;
            }
        }

        int codeBegin(int line) {
            return line > 0 ? codeEnds[line - 1] : 0;
        }
    }

    /** Reads a text of the law into a draft. */
    private static final class LawReader extends TextReader {
        static final int DEEPEST = 6;

        final Law draft;

        LawReader(Tape tape) {
            super(tape, Law.MOST_LINES);
            draft = new Law();
        }

        boolean readsLine() {
            boolean fade = tape.isWord("fade");
            if (!fade && !tape.isWord("weigh")) {
                return false;
            }
            tape.step();
            int amount = readNumber(0, fade ? 99 : 9);
            if (amount == NONE) {
                return false;
            }
            if (tape.takesWord("if") && !readsCondition(0)) {
                return false;
            }
            draft.endLine(fade ? Law.FADE : Law.WEIGH, amount);
            return true;
        }

        /** "and" binds closer than "or": an "or" is put only when no "and" goes on. */
        private boolean readsCondition(int depth) {
            boolean and = false;
            boolean or = false;
            for (int atom = 0; atom < Tape.ROOM; atom++) {
                if (!readsAtom(depth)) {
                    return false;
                }
                if (and) {
                    draft.put(Law.AND);
                }
                and = tape.takesWord("and");
                if (!and) {
                    if (or) {
                        draft.put(Law.OR);
                    }
                    or = tape.takesWord("or");
                    if (!or) {
                        return true;
                    }
                }
            }
            return false;
        }

        private boolean readsAtom(int depth) {
            boolean not = tape.isWord("not");
            if (not || tape.isMark('(')) {
                return depth < DEEPEST && readsDeeper(not, depth + 1);
            }
            int sort = sortHere();
            if (sort != NONE) {
                draft.put(Law.FACTS + sort);
                tape.step();
                return true;
            }
            if (!readsSum()) {
                return false;
            }
            boolean less = tape.isMark('<');
            if (!less && !tape.isMark('>')) {
                return false;
            }
            tape.step();
            if (!readsSum()) {
                return false;
            }
            draft.put(less ? Law.LESS : Law.MORE);
            return true;
        }

        private boolean readsDeeper(boolean not, int depth) {
            tape.step();
            if (not) {
                boolean right = readsAtom(depth);
                draft.put(Law.NOT);
                return right;
            }
            if (!readsCondition(depth) || !tape.isMark(')')) {
                return false;
            }
            tape.step();
            return true;
        }

        private int sortHere() {
            if (tape.isWord("round")) {
                return Law.ROUND;
            }
            if (tape.isWord("slant")) {
                return Law.SLANT;
            }
            return tape.isWord("open") ? Law.OPEN : NONE;
        }

        private boolean readsSum() {
            for (int part = 0; part < Tape.ROOM; part++) {
                int item = partHere();
                if (item == NONE) {
                    return false;
                }
                draft.put(item);
                if (part > 0) {
                    draft.put(Law.PLUS);
                }
                tape.step();
                if (!tape.isMark('+')) {
                    return true;
                }
                tape.step();
            }
            return false;
        }

        private int partHere() {
            if (tape.isWord("row")) {
                return Law.FACTS + Law.ROW;
            }
            if (tape.isWord("gap")) {
                return Law.FACTS + Law.GAP;
            }
            if (tape.isWord("left")) {
                return Law.FACTS + Law.LEFT;
            }
            if (tape.isWord("right")) {
                return Law.FACTS + Law.RIGHT;
            }
            if (tape.isWord("light")) {
                return Law.FACTS + Law.LIGHT;
            }
            if (tape.isWord("yards")) {
                return Law.FACTS + Law.YARDS;
            }
            return tape.numberWithin(0, 999);
        }
    }

    /** All that the acts change. */
    private static final class Work {
        static final int LOG_ROOM = 60;
        static final int LOG_FIELDS = 4;
        static final int LOG_WRITER = 2;
        static final int LOG_CHANGE = 3;
        static final int FIRST_DISTANCE = 3;
        static final int MOST_DAYS = 4 * MOST_LETTERS;
        static final int MOST_LEFT = 12;
        static final int TOO_MANY_LEFT = -3;

        final int[] distances;
        final int[] squeezes;
        final int[] paintedOn;
        int painted;
        int wet;
        int shadow;
        int seed;
        int days;
        final int[] log;
        int logRows;
        int logNext;

        Work() {
            distances = new int[MOST_GAPS];
            squeezes = new int[MOST_LETTERS];
            paintedOn = new int[MOST_LETTERS];
            log = new int[LOG_ROOM * LOG_FIELDS];
            seed = 1;
            beginWord();
        }

        void beginWord() {
            Arrays.fill(distances, FIRST_DISTANCE);
            Arrays.fill(squeezes, 0);
            Arrays.fill(paintedOn, NONE);
            painted = 0;
            wet = NONE;
        }

        void copyFrom(Work other) {
            System.arraycopy(other.distances, 0, distances, 0, MOST_GAPS);
            System.arraycopy(other.squeezes, 0, squeezes, 0, MOST_LETTERS);
            System.arraycopy(other.paintedOn, 0, paintedOn, 0, MOST_LETTERS);
            painted = other.painted;
            wet = other.wet;
            shadow = other.shadow;
            seed = other.seed;
            days = other.days;
            System.arraycopy(other.log, 0, log, 0, LOG_ROOM * LOG_FIELDS);
            logRows = other.logRows;
            logNext = other.logNext;
        }

        int paintDay(int writer, int slipRate, int letters) {
            int letter = nextLetter(painted, wet, letters);
            if (letter != NONE) {
                painted |= 1 << letter;
                paintedOn[letter] = days;
                writeLog(letter, writer, slipBeside(letter, slipRate, letters));
            }
            wet = letter;
            days++;
            return letter;
        }

        private int slipBeside(int letter, int slipRate, int letters) {
            if (draw() % 100 >= slipRate) {
                return 0;
            }
            int gap = letter + 1 < letters ? letter : letter - 1;
            if (gap < 0) {
                return 0;
            }
            int was = distances[gap];
            int now = draw() % 2 == 0 ? was - 1 : was + 1;
            distances[gap] = Math.max(0, Math.min(WIDEST_GAP, now));
            return distances[gap] - was;
        }

        private int draw() {
            seed = 1103515245 * seed + 12345;
            return (seed >>> 16) & 32767;
        }

        private void writeLog(int letter, int writer, int change) {
            int at = logNext * LOG_FIELDS;
            log[at] = days;
            log[at + 1] = letter;
            log[at + LOG_WRITER] = writer;
            log[at + LOG_CHANGE] = change;
            logNext = (logNext + 1) % LOG_ROOM;
            logRows = Math.min(LOG_ROOM, logRows + 1);
        }

        int logged(int ago, int what) {
            int row = Math.floorMod(logNext - 1 - ago, LOG_ROOM);
            return log[row * LOG_FIELDS + what];
        }

        private static int nextLetter(int painted, int wet, int letters) {
            int shut = painted | beside(wet);
            for (int letter = 0; letter < letters; letter++) {
                if ((shut >> letter & 1) == 0) {
                    return letter;
                }
            }
            return NONE;
        }

        private static int beside(int letter) {
            return letter == NONE ? 0 : (1 << letter << 1) | (1 << letter >> 1);
        }

        /** The letter of the wanted day from now on, or, if that is NONE, how many days there are. */
        int orderOf(int wanted, int letters) {
            int all = (1 << letters) - 1;
            int paintedThen = painted;
            int wetThen = wet;
            int found = NONE;
            int day = 0;
            while (paintedThen != all && day < MOST_DAYS) {
                wetThen = nextLetter(paintedThen, wetThen, letters);
                if (wetThen != NONE) {
                    paintedThen |= 1 << wetThen;
                }
                if (day == wanted) {
                    found = wetThen;
                }
                day++;
            }
            return wanted == NONE ? day : found;
        }

        int fewestDays(int letters) {
            int left = ((1 << letters) - 1) & ~painted;
            int count = Integer.bitCount(left);
            if (count > MOST_LEFT) {
                return TOO_MANY_LEFT;
            }
            return needsPause(left, count) ? count + 1 : count;
        }

        /**
         * One day without a letter is always enough, and needed only by few letters: one or two that are
         * all beside the wet one, two neighbours, three in a row. (BrushTest holds this against a search.)
         */
        private boolean needsPause(int left, int count) {
            boolean allBesideWet = (left & ~beside(wet)) == 0;
            switch (count) {
                case 1:
                    return allBesideWet;
                case 2:
                    return allBesideWet || (left & left << 1) != 0;
                case 3:
                    return (left & left << 1 & left << 2) != 0;
                default:
                    return false;
            }
        }
    }

    /** The latest acts: how all stood ahead of each. */
    private static final class History {
        static final int ROOM = 12;

        final Work[] ahead;
        int size;
        int next;

        History() {
            ahead = new Work[ROOM];
            for (int i = 0; i < ROOM; i++) {
                ahead[i] = new Work();
            }
        }

        void clear() {
            size = 0;
        }

        void remember(Work work) {
            ahead[next].copyFrom(work);
            next = (next + 1) % ROOM;
            size = Math.min(ROOM, size + 1);
        }

        boolean recall(Work work) {
            if (size == 0) {
                return false;
            }
            next = (next + ROOM - 1) % ROOM;
            size--;
            work.copyFrom(ahead[next]);
            return true;
        }
    }

    /** Measures the word as it stands: hairs, whites, how far it is read. */
    private static final class Gauge {
        static final int WHITES_OF_GAP = WIDEST_GAP + 1;
        // six brackets deep, two joined conditions and a comparison each never need as much
        static final int STACK_ROOM = 40;

        final Shop shop;
        final Law law;
        final Work work;
        final int[] facts;
        final int[] stack;
        // a white hangs on the shop, the law and the shadow alone: kept until one of these changes
        final int[] whites;

        Gauge(Shop shop, Law law, Work work) {
            this.shop = shop;
            this.law = law;
            this.work = work;
            facts = new int[Law.FACT_COUNT];
            stack = new int[STACK_ROOM];
            whites = new int[MOST_GAPS * WHITES_OF_GAP];
            Arrays.fill(whites, NONE);
        }

        void forgetWhites() {
            Arrays.fill(whites, NONE);
        }

        int widthOf(int letter) {
            return shop.widths[shop.word[letter]] - work.squeezes[letter];
        }

        int beginOf(int letter) {
            int begin = shop.margin;
            for (int ahead = 0; ahead < letter; ahead++) {
                begin += widthOf(ahead) + work.distances[ahead];
            }
            return begin;
        }

        int endOfWord() {
            int last = shop.letters - 1;
            return last < 0 ? shop.margin : beginOf(last) + widthOf(last);
        }

        boolean fitsWith(int shadow) {
            return endOfWord() + shadow <= shop.hairs - shop.margin;
        }

        /** What is left for the distances, if the board were longer by so many hairs. */
        int freeHairs(int longer) {
            int free = shop.hairs + longer - 2 * shop.margin - work.shadow;
            for (int letter = 0; letter < shop.letters; letter++) {
                free -= widthOf(letter);
            }
            return free;
        }

        int spaceOf(int gap, int row, int distance, int shadow) {
            int space = Math.max(0, distance - shadow)
                    + shop.rightOf(shop.word[gap], row) + shop.leftOf(shop.word[gap + 1], row);
            return Math.min(shop.cap, space);
        }

        int leastSpace(int gap, int distance, int shadow) {
            int least = shop.cap;
            for (int row = 0; row < ROWS; row++) {
                least = Math.min(least, spaceOf(gap, row, distance, shadow));
            }
            return least;
        }

        int whiteOf(int gap, int distance) {
            int at = gap * WHITES_OF_GAP + distance;
            if (whites[at] == NONE) {
                int white = 0;
                for (int row = 0; row < ROWS; row++) {
                    white += spaceOf(gap, row, distance, work.shadow) * weightOf(gap, row, distance);
                }
                whites[at] = white;
            }
            return whites[at];
        }

        int weightOf(int gap, int row, int distance) {
            if (law.lines == NONE) {
                return 1;
            }
            int one = shop.word[gap];
            int other = shop.word[gap + 1];
            Arrays.fill(facts, 0);
            facts[Law.ROW] = row;
            facts[Law.GAP] = distance;
            facts[Law.LEFT] = shop.rightOf(one, row);
            facts[Law.RIGHT] = shop.leftOf(other, row);
            noteSort(shop.sorts[one]);
            noteSort(shop.sorts[other]);
            return sumOfLines(Law.WEIGH);
        }

        private void noteSort(int sort) {
            if (sort > 0) {
                facts[Law.ROUND + sort - 1] = 1;
            }
        }

        int fadingAt(int yards, int light) {
            Arrays.fill(facts, 0);
            facts[Law.LIGHT] = light;
            facts[Law.YARDS] = yards;
            return sumOfLines(Law.FADE);
        }

        private int sumOfLines(int kind) {
            int sum = 0;
            for (int line = 0; line < law.lines; line++) {
                if (law.kinds[line] == kind && holds(law.codeBegin(line), law.codeEnds[line])) {
                    sum += law.amounts[line];
                }
            }
            return sum;
        }

        private boolean holds(int from, int to) {
            int top = 0;
            for (int at = from; at < to; at++) {
                int item = law.code[at];
                if (item < Law.OPERATORS) {
                    if (top < STACK_ROOM) {
                        stack[top] = item < Law.FACTS ? item : facts[item - Law.FACTS];
                        top++;
                    }
                } else if (item == Law.NOT) {
                    if (top > 0) {
                        stack[top - 1] = 1 - stack[top - 1];
                    }
                } else if (top > 1) {
                    top--;
                    joinOnStack(item, top - 1);
                }
            }
            return from >= to || stack[0] != 0;
        }

        private void joinOnStack(int operator, int at) {
            int one = stack[at];
            int other = stack[at + 1];
            switch (operator) {
                case Law.PLUS:
                    stack[at] = one + other;
                    break;
                case Law.LESS:
                    stack[at] = one < other ? 1 : 0;
                    break;
                case Law.MORE:
                    stack[at] = one > other ? 1 : 0;
                    break;
                case Law.AND:
                    stack[at] = one & other;
                    break;
                default:
                    stack[at] = one | other;
                    break;
            }
        }

        int unevenBy(int[] distances, int slant) {
            int least = 0;
            int most = 0;
            for (int gap = 0; gap < shop.gapCount(); gap++) {
                int seen = distances[gap] * Math.max(0, 100 - slant * gap) / 100;
                int white = whiteOf(gap, seen);
                least = gap == 0 ? white : Math.min(least, white);
                most = gap == 0 ? white : Math.max(most, white);
            }
            return most - least;
        }

        /** How many hairs the first letters lack for a white. */
        int lackingBy(int white, int letters) {
            int lacks = 2 * shop.margin + work.shadow - shop.hairs;
            for (int letter = 0; letter < letters; letter++) {
                lacks += widthOf(letter);
                if (letter > 0) {
                    lacks += distanceFor(letter - 1, white);
                }
            }
            return lacks;
        }

        private int distanceFor(int gap, int white) {
            int distance = 0;
            while (distance < WIDEST_GAP && whiteOf(gap, distance) < white) {
                distance++;
            }
            return distance;
        }

        int middleHair() {
            int end = endOfWord();
            int all = inkAhead(end);
            int tooFew = NONE;
            int enough = end;
            // a word ends below hair 1024, so ten halvings are enough
            for (int halving = 0; halving <= 10 && enough - tooFew > 1; halving++) {
                int hair = (tooFew + enough) / 2;
                if (2 * inkAhead(hair) >= all) {
                    enough = hair;
                } else {
                    tooFew = hair;
                }
            }
            return enough;
        }

        private int inkAhead(int hair) {
            int ink = 0;
            int begin = shop.margin;
            for (int letter = 0; letter < shop.letters; letter++) {
                int sign = shop.word[letter];
                int width = widthOf(letter);
                for (int row = 0; row < ROWS; row++) {
                    int from = begin + shop.leftOf(sign, row);
                    int to = Math.min(hair, begin + width - shop.rightOf(sign, row));
                    ink += Math.max(0, to - from);
                }
                begin += width + (letter < MOST_GAPS ? work.distances[letter] : 0);
            }
            return ink;
        }

        int clearness(int yards, int light) {
            return Math.max(0, shop.contrast - fadingAt(yards, light));
        }

        /** The least space of all gaps; without a gap so much that any clearness at all is enough. */
        int tightestSpace(int shadow) {
            int tightest = MOST_YARDS;
            for (int gap = 0; gap < shop.gapCount(); gap++) {
                tightest = Math.min(tightest, leastSpace(gap, work.distances[gap], shadow));
            }
            return tightest;
        }

        boolean isRead(int yards, int light, int tightest) {
            return clearness(yards, light) * tightest >= yards;
        }

        int farthestBy(int light) {
            int tightest = tightestSpace(work.shadow);
            int yards = 0;
            while (yards < MOST_YARDS && isRead(yards + 1, light, tightest)) {
                yards++;
            }
            return yards;
        }
    }

    /** The distances by which the word just fills the board and its whites are the least off. */
    private static final class Laying {
        static final int HAIRS = 120 + INCH + 1;
        static final int TOO_FAR_OFF = 1000000000;

        final Shop shop;
        final Gauge gauge;
        // of the gaps from one on: the least off, if so many hairs are given out to them
        final int[] least;
        final int[] costs;
        int white;
        int hairs;

        Laying(Shop shop, Gauge gauge) {
            this.shop = shop;
            this.gauge = gauge;
            least = new int[(MOST_GAPS + 1) * HAIRS];
            costs = new int[WIDEST_GAP + 1];
        }

        int leastOff(int newWhite, int longer) {
            int gaps = shop.gapCount();
            white = newWhite;
            hairs = gauge.freeHairs(longer);
            if (shop.letters == 0 || hairs < 0 || hairs > WIDEST_GAP * gaps || hairs >= HAIRS) {
                return NONE;
            }
            least[gaps * HAIRS] = 0;
            for (int gap = gaps - 1; gap >= 0; gap--) {
                fillFrom(gap, WIDEST_GAP * (gaps - gap - 1));
            }
            return least[hairs];
        }

        /** Only what the gaps ahead can leave over, and the gaps behind can take up, is looked at. */
        private void fillFrom(int gap, int mostBehind) {
            for (int distance = 0; distance <= WIDEST_GAP; distance++) {
                costs[distance] = Math.abs(gauge.whiteOf(gap, distance) - white);
            }
            int from = Math.max(0, hairs - WIDEST_GAP * gap);
            int to = Math.min(hairs, mostBehind + WIDEST_GAP);
            for (int given = from; given <= to; given++) {
                int behind = (gap + 1) * HAIRS + given;
                int most = Math.min(WIDEST_GAP, given);
                int off = TOO_FAR_OFF;
                for (int distance = Math.max(0, given - mostBehind); distance <= most; distance++) {
                    int now = least[behind - distance] + costs[distance];
                    if (now < off) {
                        off = now;
                    }
                }
                least[gap * HAIRS + given] = off;
            }
        }

        /** Behind a leastOff that found some: the first such distances are put. */
        void putDistances(int[] distances) {
            int left = hairs;
            for (int gap = 0; gap < shop.gapCount(); gap++) {
                distances[gap] = firstDistance(gap, left);
                left -= distances[gap];
            }
        }

        int distanceOf(int wanted) {
            int left = hairs;
            int distance = 0;
            for (int gap = 0; gap <= wanted; gap++) {
                distance = firstDistance(gap, left);
                left -= distance;
            }
            return distance;
        }

        private int firstDistance(int gap, int left) {
            int mostBehind = WIDEST_GAP * (shop.gapCount() - gap - 1);
            int most = Math.min(WIDEST_GAP, left);
            int off = least[gap * HAIRS + left];
            for (int distance = Math.max(0, left - mostBehind); distance < most; distance++) {
                int now = least[(gap + 1) * HAIRS + left - distance];
                if (now + Math.abs(gauge.whiteOf(gap, distance) - white) == off) {
                    return distance;
                }
            }
            return most;
        }
    }

    /** Squeezes with the least harm. */
    private static final class Press {
        static final int GAINS = MOST_LETTERS * MOST_SQUEEZE + 1;
        static final int TOO_MUCH = 1000000;

        final Shop shop;
        final Work work;
        final Gauge gauge;
        // of the letters from one on: the least harm by which so many hairs are gained
        final int[] least;
        int wanted;

        Press(Shop shop, Work work, Gauge gauge) {
            this.shop = shop;
            this.work = work;
            this.gauge = gauge;
            least = new int[(MOST_LETTERS + 1) * GAINS];
        }

        int leastHarm(int lacks) {
            wanted = Math.max(0, lacks);
            if (wanted >= GAINS) {
                return NONE;
            }
            int behind = shop.letters * GAINS;
            least[behind] = 0;
            for (int gain = 1; gain <= wanted; gain++) {
                least[behind + gain] = TOO_MUCH;
            }
            for (int letter = shop.letters - 1; letter >= 0; letter--) {
                for (int gain = 0; gain <= wanted; gain++) {
                    least[letter * GAINS + gain] = leastFrom(letter, gain);
                }
            }
            return least[wanted] >= TOO_MUCH ? NONE : least[wanted];
        }

        private int leastFrom(int letter, int gain) {
            int harm = TOO_MUCH;
            for (int by = 0; by <= mostOf(letter); by++) {
                harm = Math.min(harm, harmWith(letter, gain, by));
            }
            return harm;
        }

        private int harmWith(int letter, int gain, int by) {
            int rest = Math.max(0, gain - by);
            return by * by * shop.inkOf(shop.word[letter]) + least[(letter + 1) * GAINS + rest];
        }

        private int mostOf(int letter) {
            return work.squeezes[letter] > 0 ? 0 : Math.min(MOST_SQUEEZE, gauge.widthOf(letter) - 1);
        }

        /** Behind a leastHarm that found a way: the letters of the first such way. */
        int squeezedBits() {
            int bits = 0;
            int gain = wanted;
            for (int letter = 0; letter < shop.letters; letter++) {
                int by = 0;
                while (by < mostOf(letter) && harmWith(letter, gain, by) != least[letter * GAINS + gain]) {
                    by++;
                }
                if (by > 0) {
                    bits |= 1 << letter;
                }
                gain = Math.max(0, gain - by);
            }
            return bits;
        }
    }
}
