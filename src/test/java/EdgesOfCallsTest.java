/**
 * Each number that a call of the face is told: the least and the most that it takes, and one beyond on either side, on a
 * board of which all is something and on one without anything; of several exceptions the one told first; and that
 * nothing has changed behind a call that throws, or that only asks.
 */
public final class EdgesOfCallsTest {
    private static final int NONE = SignBoard.NONE;
    private static final int SIGNS = 4;
    private static final int LETTERS = 4;
    private static final int GAPS = 3;
    private static final int ROWS = 5;
    private static final int WRITERS = 2;

    private interface Two {
        long of(SignBoard board, int n);
    }

    private interface Three {
        long of(SignBoard board, int n, int more);
    }

    private interface Four {
        long of(SignBoard board, int n, int more, boolean flag);
    }

    public static void main(String[] args) {
        signs();
        letters();
        gaps();
        acts();
        squeezedByWidth();
        whites();
        whitesOfAGap();
        looks();
        slantAndEnds();
        writers();
        trials();
        logsAndOrders();
        texts();
        withoutNumbers();
        Check.finish();
    }

    /** What is beyond 0 and the most on either side, and as far off as can be. */
    private static int[] beyond(int least, int most) {
        return new int[] {least - 1, most + 1, least - 2, most + 2, Integer.MIN_VALUE, Integer.MAX_VALUE};
    }

    private static int[] edges(int least, int most) {
        return new int[] {least, least + 1, most - 1, most};
    }

    private static void index(String name, int size, Two call) {
        for (int n : beyond(0, size - 1)) {
            Twins.refuses(name + " of " + n, Twins.INDEX, Twins::rich, b -> call.of(b, n));
        }
        for (int n : new int[] {NONE, 0, 1}) {
            Twins.refuses(name + " of " + n + ", of none", Twins.INDEX, Twins::empty, b -> call.of(b, n));
        }
    }

    private static void bounds(String name, Class<? extends RuntimeException> want, int least, int most, Two call) {
        for (int n : beyond(least, most)) {
            Twins.refuses(name + " by " + n, want, Twins::rich, b -> call.of(b, n));
        }
    }

    /** Also on a board without anything: what is no number is refused there, too. */
    private static void numbers(String name, int least, int most, Two call) {
        bounds(name, Twins.ARGUMENT, least, most, call);
        for (int n : beyond(least, most)) {
            Twins.refuses(name + " by " + n + ", of none", Twins.ARGUMENT, Twins::empty, b -> call.of(b, n));
        }
    }

    private static void asks(String name, int least, int most, Two call) {
        for (int n : edges(least, most)) {
            Twins.leaves(name + " by " + n, Twins::rich, b -> call.of(b, n));
            Twins.leaves(name + " by " + n + ", of none", Twins::empty, b -> call.of(b, n));
        }
    }

    // ---- promises 7, 8

    private static void signs() {
        for (int what : new int[] {0, 1, 2, 3, NONE}) {
            index("sign " + what, SIGNS, (b, n) -> b.sign(n, what));
        }
        bounds("sign 0", Twins.ELEMENT, 0, 2, (b, n) -> b.sign(0, n));
        bounds("sign 3", Twins.ELEMENT, 0, 2, (b, n) -> b.sign(3, n));
        for (int row : new int[] {0, 4, 5, NONE}) {
            index("side in row " + row, SIGNS, (b, n) -> b.side(n, row, true));
            index("side in row " + row, SIGNS, (b, n) -> b.side(n, row, false));
        }
        bounds("side of sign 0", Twins.INDEX, 0, ROWS - 1, (b, n) -> b.side(0, n, true));
        bounds("side of sign 3", Twins.INDEX, 0, ROWS - 1, (b, n) -> b.side(3, n, false));
        for (int sign : edges(0, SIGNS - 1)) {
            for (int n = 0; n < ROWS; n++) {
                int row = n;
                Twins.leaves("side", Twins::rich, b -> b.side(sign, row, true));
                Twins.leaves("sign", Twins::rich, b -> b.sign(sign, Math.min(2, row)));
            }
        }
    }

    // ---- promise 9

    private static void letters() {
        for (int what : new int[] {0, 1, 2, 3, 4, 5, NONE}) {
            index("letter " + what, LETTERS, (b, n) -> b.letter(n, what));
        }
        bounds("letter 0", Twins.ELEMENT, 0, 4, (b, n) -> b.letter(0, n));
        bounds("letter 3", Twins.ELEMENT, 0, 4, (b, n) -> b.letter(3, n));
        for (int what = 0; what < 5; what++) {
            int asked = what;
            Twins.leaves("letter", Twins::rich, b -> b.letter(0, asked));
            Twins.leaves("letter", Twins::rich, b -> b.letter(LETTERS - 1, asked));
        }
    }

    // ---- promises 10, 11

    private static SignBoard letters(int letters) {
        SignBoard b = Twins.rich();
        Check.shop(b, "word" + " 0".repeat(letters));
        Check.tape(b, "cap 7");
        return b;
    }

    private static void gaps() {
        for (int what : new int[] {0, 1, 2, 3, NONE}) {
            index("gap " + what, GAPS, (b, n) -> b.gap(n, what));
            Twins.refuses("a gap of one letter", Twins.INDEX, () -> letters(1), b -> b.gap(0, what));
            Twins.refuses("a second gap of two letters", Twins.INDEX, () -> letters(2), b -> b.gap(1, what));
            Twins.refuses("a 14th gap of 14 letters", Twins.INDEX, () -> letters(14), b -> b.gap(13, what));
        }
        Check.due("the gap of two letters", letters(2).gap(0, 0), 3);
        Check.due("the 13th gap of 14 letters", letters(14).gap(12, 0), 3);
        bounds("gap 0", Twins.ELEMENT, 0, 2, (b, n) -> b.gap(0, n));
        bounds("gap 2", Twins.ELEMENT, 0, 2, (b, n) -> b.gap(2, n));
        for (int row : new int[] {0, 4, 5, NONE}) {
            index("row " + row, GAPS, (b, n) -> b.row(n, row, true));
            index("row " + row, GAPS, (b, n) -> b.row(n, row, false));
        }
        Twins.refuses("a row of one letter", Twins.INDEX, () -> letters(1), b -> b.row(0, 0, true));
        Twins.refuses("a row of the second gap of two", Twins.INDEX, () -> letters(2), b -> b.row(1, 0, false));
        bounds("row of gap 0", Twins.INDEX, 0, ROWS - 1, (b, n) -> b.row(0, n, true));
        bounds("row of gap 2", Twins.INDEX, 0, ROWS - 1, (b, n) -> b.row(2, n, false));
        for (int n = 0; n < ROWS; n++) {
            int row = n;
            Twins.leaves("gap", Twins::rich, b -> b.gap(2, Math.min(row, 2)));
            Twins.leaves("row", Twins::rich, b -> b.row(0, row, true));
            Twins.leaves("row", Twins::rich, b -> b.row(2, row, false));
        }
    }

    // ---- promises 13 to 16

    private static void acts() {
        for (int distance : new int[] {NONE, 0, 30, 31}) {
            index("shift by " + distance, GAPS, (b, n) -> b.shift(n, distance));
        }
        bounds("shift of 0", Twins.ARGUMENT, 0, 30, (b, n) -> b.shift(0, n));
        bounds("shift of 2", Twins.ARGUMENT, 0, 30, (b, n) -> b.shift(2, n));
        Twins.refuses("shift of one letter", Twins.INDEX, () -> letters(1), b -> b.shift(0, 5));
        for (int hairs : new int[] {NONE, 0, 3, 4}) {
            index("squeezed by " + hairs, LETTERS, (b, n) -> b.squeezed(n, hairs));
        }
        for (int letter = 0; letter < LETTERS; letter++) {
            int squeezed = letter;
            bounds("squeezed letter " + letter, Twins.ARGUMENT, 0, 3, (b, n) -> b.squeezed(squeezed, n));
        }
        numbers("shadow", 0, 9, (b, n) -> b.shadow(n));
        bounds("lays", Twins.ARGUMENT, 0, 2000, (b, n) -> b.lays(n));
        for (int n : beyond(0, 2000)) {
            Twins.refuses("lays by a white that is none, and none is laid", Twins.ARGUMENT, Twins::empty, b -> b.lays(n));
        }
        for (int n : edges(0, 2000)) {
            Twins.refuses("lays, but none is laid", Twins.STATE, Twins::empty, b -> b.lays(n));
        }
        for (int n : edges(0, 9)) {
            SignBoard b = Twins.rich();
            Check.due("shadow by " + n, b.shadow(n), 1);
            Check.due("shadow " + n, b.count(5), n);
        }
        for (int n : edges(0, 30)) {
            for (int gap : edges(0, GAPS - 1)) {
                SignBoard b = Twins.rich();
                int was = b.gap(gap, 0);
                int end = b.count(12);
                Check.due("shift of " + gap + " by " + n, b.shift(gap, n), was);
                Check.due("distance " + n, b.gap(gap, 0), n);
                Check.due("all behind it move", b.count(12), end + n - was);
                Check.due("again", b.shift(gap, 7), n);
            }
        }
    }

    // ---- promise 14: not below WIDTH 1

    private static SignBoard wide(int width) {
        SignBoard b = Check.board("sign open wide " + width + " left 00000 right 00000;word 0 0");
        b.shift(0, 9);
        Check.tape(b, "cap 7");
        return b;
    }

    private static void squeezedByWidth() {
        for (int width : new int[] {2, 3, 4, 5, 12}) {
            int most = Math.min(3, width - 1);
            for (int letter = 0; letter < 2; letter++) {
                int squeezed = letter;
                for (int hairs = most + 1; hairs <= 5; hairs++) {
                    int by = hairs;
                    Twins.refuses("squeezed by " + by + " of width " + width, Twins.ARGUMENT, () -> wide(width),
                            b -> b.squeezed(squeezed, by));
                }
                SignBoard b = wide(width);
                int was = 0;
                for (int hairs = 0; hairs <= most; hairs++) {
                    Check.due("squeezed by " + hairs + " of width " + width, b.squeezed(letter, hairs), was);
                    Check.due("by how many", b.letter(letter, 1), hairs);
                    Check.due("the width", b.letter(letter, 2), width - hairs);
                    Check.due("the word", b.count(12), 2 + 2 * width + 9 - hairs);
                    was = hairs;
                }
                // what it was does not count: the sign's width does
                Check.due("squeezed by less", b.squeezed(letter, 1), most);
                Check.due("squeezed by as much", b.squeezed(letter, most), 1);
                Check.dueThrow("squeezed by one more", Twins.ARGUMENT, () -> b.squeezed(squeezed, most + 1));
            }
        }
    }

    // ---- promises 16, 19, 21 to 27, 42: a WHITE told

    private static void told(String name, Two call) {
        numbers(name, 0, 2000, call);
        asks(name, 0, 2000, call);
    }

    private static void whites() {
        told("off", (b, n) -> b.off(n));
        told("laid", (b, n) -> b.laid(n, NONE));
        told("laid 0", (b, n) -> b.laid(n, 0));
        told("cannot", (b, n) -> b.cannot(n));
        told("lacks", (b, n) -> b.lacks(n));
        told("squeeze, which", (b, n) -> b.squeeze(n, true));
        told("squeeze", (b, n) -> b.squeeze(n, false));
        told("dropped", (b, n) -> b.dropped(n));
        told("inch", (b, n) -> b.inch(n));
        // the k-th distance: beyond them it is none, and no exception
        for (int k : new int[] {Integer.MIN_VALUE, -2, GAPS, GAPS + 1, 13, 14, Integer.MAX_VALUE}) {
            Twins.leaves("laid " + k, NONE, Twins::rich, b -> b.laid(30, k));
            Twins.leaves("laid " + k + " of none", NONE, Twins::empty, b -> b.laid(30, k));
            Twins.refuses("laid " + k + " by no white", Twins.ARGUMENT, Twins::rich, b -> b.laid(2001, k));
        }
        for (int k = 0; k < GAPS; k++) {
            Check.due("laid " + k + " is a distance", Twins.rich().laid(30, k) >= 0, true);
        }
    }

    private static void whitesOfAGap() {
        for (int white : new int[] {NONE, 0, 2000, 2001}) {
            index("nearest by " + white, GAPS, (b, n) -> b.nearest(n, white));
        }
        bounds("nearest of 0", Twins.ARGUMENT, 0, 2000, (b, n) -> b.nearest(0, n));
        bounds("nearest of 2", Twins.ARGUMENT, 0, 2000, (b, n) -> b.nearest(2, n));
        for (int white : edges(0, 2000)) {
            Twins.leaves("nearest", Twins::rich, b -> b.nearest(0, white));
            Twins.leaves("nearest", Twins::rich, b -> b.nearest(2, white));
        }
    }

    // ---- promises 12, 29 to 32: YARDS and LIGHT

    private static void yardsAndLight(String name, Three call) {
        for (int light : new int[] {NONE, 0, 9, 10}) {
            numbers(name + " by light " + light + ", yards", 1, 60, (b, n) -> call.of(b, n, light));
        }
        for (int yards : new int[] {0, 1, 60, 61}) {
            numbers(name + " at yards " + yards + ", light", 0, 9, (b, n) -> call.of(b, yards, n));
        }
        asks(name + " at yards", 1, 60, (b, n) -> call.of(b, n, 0));
        asks(name + " by light", 0, 9, (b, n) -> call.of(b, 60, n));
    }

    private static void looks() {
        yardsAndLight("fades", (b, yards, light) -> b.fades(yards, light));
        yardsAndLight("read", (b, yards, light) -> b.read(yards, light) ? 1 : 0);
        yardsAndLight("runs", (b, yards, light) -> b.runs(yards, light));
        yardsAndLight("bears", (b, yards, light) -> b.bears(yards, light));
        numbers("far", 0, 9, (b, n) -> b.far(n));
        asks("far", 0, 9, (b, n) -> b.far(n));
    }

    // ---- promises 34, 36

    private static void slantAndEnds() {
        numbers("aslant", 0, 9, (b, n) -> b.aslant(n));
        asks("aslant", 0, 9, (b, n) -> b.aslant(n));
        numbers("ends", 0, 30, (b, n) -> b.ends(n));
        asks("ends", 0, 30, (b, n) -> b.ends(n));
    }

    // ---- promises 17, 40, 45: a writer

    private static void writers() {
        index("paint", WRITERS, (b, n) -> b.paint(n));
        for (int n : new int[] {Integer.MIN_VALUE, -2, WRITERS, WRITERS + 1, Integer.MAX_VALUE}) {
            Twins.refuses("slips of " + n, Twins.INDEX, Twins::rich, b -> b.slips(n));
        }
        Twins.refuses("slips of 0, of none", Twins.INDEX, Twins::empty, b -> b.slips(0));
        for (int n : new int[] {NONE, 0, WRITERS - 1}) {
            Twins.leaves("slips of " + n, Twins::rich, b -> b.slips(n));
        }
        Twins.leaves("slips of all, of none", 0, Twins::empty, b -> b.slips(NONE));
        for (int bytes = 0; bytes < 4; bytes++) {
            byte[] tape = new byte[bytes];
            for (int n : beyond(0, WRITERS - 1)) {
                Twins.refusesTape("likely of " + n + " of " + bytes, Twins.INDEX, Twins::rich, b -> {
                    Check.tape(b, tape);
                    return b.likely(n);
                });
            }
            for (int n : new int[] {NONE, 0}) {
                Twins.refusesTape("likely of " + n + " of " + bytes + ", of none", Twins.INDEX, Twins::empty, b -> {
                    Check.tape(b, tape);
                    return b.likely(n);
                });
            }
        }
        for (int bytes : new int[] {1, 3, 397, 399}) {
            Twins.refusesTape("likely of " + bytes, Twins.ARGUMENT, Twins::rich, b -> likely(b, bytes));
            Twins.refusesTape("wrote of " + bytes, Twins.ARGUMENT, Twins::rich, b -> wrote(b, bytes));
            Twins.refusesTape("wrote of " + bytes + ", of none", Twins.ARGUMENT, Twins::empty, b -> wrote(b, bytes));
        }
        for (int bytes : new int[] {0, 2, 4, 398, 400}) {
            Twins.leavesButTape("likely of " + bytes, 0, Twins::rich, b -> likely(b, bytes));
            Twins.leavesButTape("wrote of " + bytes, 0, Twins::rich, b -> wrote(b, bytes));
            Twins.leavesButTape("wrote of " + bytes + ", of none", NONE, Twins::empty, b -> wrote(b, bytes));
        }
    }

    private static int likely(SignBoard b, int bytes) {
        Check.tape(b, new byte[bytes]);
        return b.likely(1);
    }

    private static int wrote(SignBoard b, int bytes) {
        Check.tape(b, new byte[bytes]);
        return b.wrote();
    }

    // ---- promises 43, 44

    private static void tries(String name, Four call) {
        for (boolean flag : new boolean[] {true, false}) {
            for (int days : new int[] {NONE, 0, 40, 41}) {
                index(name + " of " + days + " days", WRITERS, (b, n) -> call.of(b, n, days, flag));
            }
            bounds(name + " of 0, days", Twins.ARGUMENT, 0, 40, (b, n) -> call.of(b, 0, n, flag));
            bounds(name + " of 1, days", Twins.ARGUMENT, 0, 40, (b, n) -> call.of(b, 1, n, flag));
            for (int days : edges(0, 40)) {
                Twins.leaves(name + " of " + days, Twins::rich, b -> call.of(b, 0, days, flag));
                Twins.leaves(name + " of " + days, Twins::rich, b -> call.of(b, 1, days, flag));
            }
        }
    }

    private static void trials() {
        tries("trial", (b, writer, days, flag) -> b.trial(writer, days, flag));
        tries("span", (b, writer, days, flag) -> b.span(writer, days, flag));
    }

    // ---- promises 37, 46, 51

    private static void logsAndOrders() {
        for (int ago : new int[] {0, 1, 2, 60, NONE, Integer.MIN_VALUE, Integer.MAX_VALUE}) {
            bounds("log " + ago, Twins.ELEMENT, 0, 3, (b, n) -> b.log(ago, n));
            for (int what : new int[] {NONE, 4}) {
                Twins.refuses("log " + ago + " of none", Twins.ELEMENT, Twins::empty, b -> b.log(ago, what));
            }
        }
        for (int what = 0; what < 4; what++) {
            int asked = what;
            for (int ago : new int[] {2, 3, 59, 60, NONE, Integer.MIN_VALUE, Integer.MAX_VALUE}) {
                Twins.leaves("log " + ago, -99, Twins::rich, b -> b.log(ago, asked));
            }
            Twins.leaves("log 0 of none", -99, Twins::empty, b -> b.log(0, asked));
            Twins.leaves("log 0", Twins::rich, b -> b.log(0, asked));
            Twins.leaves("log 1", Twins::rich, b -> b.log(1, asked));
            Check.due("log 1 is there", Twins.rich().log(1, asked) > -99, true);
        }
        for (int k : new int[] {Integer.MIN_VALUE, -2, 99, Integer.MAX_VALUE}) {
            Twins.leaves("order " + k, NONE, Twins::rich, b -> b.order(k));
            Twins.leaves("order " + k + " of none", NONE, Twins::empty, b -> b.order(k));
        }
        for (int k : new int[] {NONE, 0, 1, 2}) {
            Twins.leaves("order " + k, Twins::rich, b -> b.order(k));
        }
        for (int what : new int[] {Integer.MIN_VALUE, -2, NONE, 16, 17, Integer.MAX_VALUE}) {
            Twins.leaves("count " + what, NONE, Twins::rich, b -> b.count(what));
            Twins.leaves("count " + what + " of none", NONE, Twins::empty, b -> b.count(what));
        }
        for (int what = 0; what < 16; what++) {
            int asked = what;
            Twins.leaves("count " + what, Twins::rich, b -> b.count(asked));
        }
    }

    // ---- promises 4, 5: of several exceptions the one told first

    private static void texts() {
        Twins.refusesText("a wrong text of the shop", Twins.ARGUMENT, 0, Twins::empty, b -> {
            Check.tape(b, "?");
            return b.shop();
        });
        Twins.refusesText("a wrong 13th text", Twins.ARGUMENT, 6, Twins::allTold, b -> {
            Check.tape(b, "cap 5;?");
            return b.shop();
        });
        Twins.refusesText("a right 13th text", Twins.UNSUPPORTED, NONE, Twins::allTold, b -> {
            Check.tape(b, "cap 5;word 0;looker 5");
            return b.shop();
        });
        Twins.refusesText("a wrong law", Twins.ARGUMENT, 7, Twins::empty, b -> {
            Check.tape(b, "fade 5;?");
            return b.law();
        });
        Twins.refusesText("a wrong law, of all told", Twins.ARGUMENT, 7, Twins::allTold, b -> {
            Check.tape(b, "fade 5;?");
            return b.law();
        });
    }

    /** Calls that are told no number, or only a flag: they ask, and change nothing. */
    private static void withoutNumbers() {
        for (Twins.Maker maker : new Twins.Maker[] {Twins::rich, Twins::empty, Twins::allTold}) {
            Twins.leaves("fault", maker, b -> b.fault());
            Twins.leaves("uneven", maker, b -> b.uneven());
            Twins.leaves("fits", maker, b -> b.fits() ? 1 : 0);
            Twins.leaves("best", maker, b -> b.best(true) + b.best(false));
            Twins.leaves("middle", maker, b -> b.middle(true) + b.middle(false));
            Twins.leaves("lamp", maker, b -> b.lamp());
            Twins.leaves("from", maker, b -> b.from());
            Twins.leaves("brush", maker, b -> b.brush());
            Twins.leaves("lookers", maker, b -> b.lookers(true) + b.lookers(false));
            Twins.leaves("seed there and back", maker, b -> b.seed(b.seed(5)));
        }
        Twins.leaves("undo of none", 0, Twins::empty, b -> b.undo() ? 1 : 0);
        Twins.leaves("back without an image", 0, Twins::empty, b -> b.back() ? 1 : 0);
    }
}
