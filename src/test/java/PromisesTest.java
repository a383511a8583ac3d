import java.util.NoSuchElementException;

/** Each promise by itself: ordinary answers, the edges that the document names, and wrong calls. */
public final class PromisesTest {
    private static final int NONE = SignBoard.NONE;
    private static final Class<? extends RuntimeException> INDEX = IndexOutOfBoundsException.class;
    private static final Class<? extends RuntimeException> ARGUMENT = IllegalArgumentException.class;
    private static final Class<? extends RuntimeException> ELEMENT = NoSuchElementException.class;
    private static final Class<? extends RuntimeException> STATE = IllegalStateException.class;
    private static final int[] FAR_OFF = {Integer.MIN_VALUE, -2, Integer.MAX_VALUE};

    private static final String SIGNS = "sign straight wide 4 left 00000 right 00000;"
            + "sign slant wide 6 left 21100 right 21100;sign open wide 4 left 00000 right 33333;"
            + "sign round wide 5 left 10001 right 10001";
    private static final String WORD = "board 40 margin 2;word 0 1 2 0;writer white 19 slip 100;writer white 40 slip 0";
    private static final String BAR = "sign straight wide 2 left 00000 right 00000";

    public static void main(String[] args) {
        newObject();
        signsAndSides();
        lettersAndGaps();
        rowsAndFades();
        shifts();
        squeezes();
        shadows();
        laysAndLaid();
        paints();
        slipsAndDraws();
        unevenAndOff();
        fitsAndBest();
        nearestAndCannot();
        lacksSqueezeDropped();
        middles();
        reads();
        bearsAndLamp();
        slants();
        endsFromBothSides();
        orders();
        oldBoards();
        lookersAndInch();
        trialsAndSpans();
        logs();
        undos();
        images();
        counts();
        Check.finish();
    }

    private static SignBoard board() {
        return Check.board(SIGNS, WORD);
    }

    private static SignBoard bars(int letters) {
        return Check.board(BAR + ";writer white 9 slip 0;word" + " 0".repeat(letters));
    }

    // ---- promise 1

    private static void newObject() {
        SignBoard b = new SignBoard();
        int[] counts = {0, 0, 60, 2, 12, 0, 50, 0, 0, 0, NONE, 0, 2, 0, 0, 0};
        for (int what = 0; what < counts.length; what++) {
            Check.due("count(" + what + ") of a new object", b.count(what), counts[what]);
        }
        Check.due("fault()", b.fault(), NONE);
        Check.due("uneven()", b.uneven(), 0);
        Check.due("off(7)", b.off(7), 0);
        Check.due("fits()", b.fits(), true);
        Check.due("laid(7, NONE)", b.laid(7, NONE), NONE);
        Check.due("best", b.best(true), NONE);
        Check.due("cannot(0)", b.cannot(0), 0);
        Check.due("lacks(5)", b.lacks(5), 4 - 60);
        Check.due("squeeze(5)", b.squeeze(5, false), 0);
        Check.due("dropped(5)", b.dropped(5), NONE);
        Check.due("middle", b.middle(false), 0);
        Check.due("askew", b.middle(true), -30);
        Check.due("read(60, 9)", b.read(60, 9), true);
        Check.due("far(0)", b.far(0), 60);
        Check.due("runs(1, 0)", b.runs(1, 0), 0);
        Check.due("bears(60, 0)", b.bears(60, 0), 9);
        Check.due("lamp()", b.lamp(), 0);
        Check.due("from()", b.from(), 0);
        Check.due("ends(0)", b.ends(0), -999);
        Check.due("order(NONE)", b.order(NONE), 0);
        Check.due("order(0)", b.order(0), NONE);
        Check.due("brush()", b.brush(), 0);
        Check.due("wrote()", b.wrote(), NONE);
        Check.due("lookers", b.lookers(false), 0);
        Check.due("twos", b.lookers(true), 0);
        Check.due("inch(5)", b.inch(5), -9999);
        Check.due("slips(NONE)", b.slips(NONE), 0);
        Check.due("log(0, 3)", b.log(0, 3), -99);
        Check.due("undo()", b.undo(), false);
        Check.due("back()", b.back(), false);
        Check.due("seed(5)", b.seed(5), 1);
        Check.dueThrow("lays(5)", STATE, () -> b.lays(5));
        Check.dueThrow("paint(0)", INDEX, () -> b.paint(0));
    }

    // ---- promises 7, 8

    private static void signsAndSides() {
        SignBoard b = board();
        int[][] due = {{0, 4, 20}, {2, 6, 22}, {3, 4, 5}, {1, 5, 21}};
        for (int sign = 0; sign < 4; sign++) {
            for (int what = 0; what < 3; what++) {
                Check.due("sign(" + sign + ", " + what + ")", b.sign(sign, what), due[sign][what]);
            }
        }
        Check.dueThrow("sign(0, 3)", ELEMENT, () -> b.sign(0, 3));
        Check.dueThrow("sign(0, -1)", ELEMENT, () -> b.sign(0, -1));
        Check.dueThrow("sign(4, 0)", INDEX, () -> b.sign(4, 0));
        Check.dueThrow("sign(-1, 9)", INDEX, () -> b.sign(-1, 9));
        Check.due("side(1, 0, false)", b.side(1, 0, false), 2);
        Check.due("side(1, 4, true)", b.side(1, 4, true), 0);
        Check.due("side(2, 4, true)", b.side(2, 4, true), 3);
        Check.due("side(2, 4, false)", b.side(2, 4, false), 0);
        Check.dueThrow("side(4, 0, true)", INDEX, () -> b.side(4, 0, true));
        Check.dueThrow("side(0, 5, true)", INDEX, () -> b.side(0, 5, true));
        Check.dueThrow("side(0, -1, true)", INDEX, () -> b.side(0, -1, true));
        for (int n : FAR_OFF) {
            Check.dueThrow("sign(" + n + ", 0)", INDEX, () -> b.sign(n, 0));
            Check.dueThrow("side(" + n + ", 0, true)", INDEX, () -> b.side(n, 0, true));
            Check.dueThrow("side(0, " + n + ", true)", INDEX, () -> b.side(0, n, true));
        }
    }

    // ---- promises 9, 10

    private static void lettersAndGaps() {
        SignBoard b = board();
        b.squeezed(1, 2);
        b.shift(1, 7);
        b.paint(1);
        int[] begins = {2, 9, 20, 27};
        for (int letter = 0; letter < 4; letter++) {
            Check.due("begin of letter " + letter, b.letter(letter, 3), begins[letter]);
        }
        Check.due("sign of letter 2", b.letter(2, 0), 2);
        Check.due("squeeze of letter 1", b.letter(1, 1), 2);
        Check.due("width of letter 1", b.letter(1, 2), 4);
        Check.due("day of letter 0", b.letter(0, 4), 0);
        Check.due("day of letter 1", b.letter(1, 4), NONE);
        Check.dueThrow("letter(0, 5)", ELEMENT, () -> b.letter(0, 5));
        Check.dueThrow("letter(0, -1)", ELEMENT, () -> b.letter(0, -1));
        Check.dueThrow("letter(4, 5)", INDEX, () -> b.letter(4, 5));
        Check.due("distance of gap 1", b.gap(1, 0), 7);
        Check.due("white of gap 1", b.gap(1, 1), 2 + 1 + 1 + 35);
        Check.due("least space of gap 1", b.gap(1, 2), 7);
        Check.due("least space of gap 2", b.gap(2, 2), 6);
        b.shift(1, 30);
        Check.due("white of gap 1 at the cap", b.gap(1, 1), 60);
        Check.due("least space of gap 1 at the cap", b.gap(1, 2), 12);
        Check.dueThrow("gap(0, 3)", ELEMENT, () -> b.gap(0, 3));
        Check.dueThrow("gap(0, -1)", ELEMENT, () -> b.gap(0, -1));
        Check.dueThrow("gap(3, 3)", INDEX, () -> b.gap(3, 3));
        for (int n : FAR_OFF) {
            Check.dueThrow("letter(" + n + ", 0)", INDEX, () -> b.letter(n, 0));
            Check.dueThrow("gap(" + n + ", 0)", INDEX, () -> b.gap(n, 0));
        }
        Check.dueThrow("gap(0, 0) of one letter", INDEX, () -> bars(1).gap(0, 0));
    }

    // ---- promises 11, 12 (weights and fades by laws: TextsTest)

    private static void rowsAndFades() {
        SignBoard b = board();
        Check.due("space of gap 1 row 0", b.row(1, 0, false), 5);
        Check.due("space of gap 1 row 4", b.row(1, 4, false), 3);
        b.shadow(2);
        Check.due("space with shadow", b.row(1, 0, false), 3);
        b.shadow(9);
        Check.due("space with more shadow than distance", b.row(1, 0, false), 2);
        b.shadow(0);
        b.shift(1, 11);
        Check.due("space at the cap", b.row(1, 0, false), 12);
        Check.due("weight", b.row(1, 0, true), 1);
        Check.law(b, "weigh 2 if gap > 10");
        Check.due("weight by distance", b.row(1, 0, true), 2);
        Check.due("weight by another distance", b.row(0, 0, true), 0);
        Check.due("white of it", b.gap(1, 1), 2 * (12 + 12 + 12 + 11 + 11));
        Check.dueThrow("row(3, 0, true)", INDEX, () -> b.row(3, 0, true));
        Check.dueThrow("row(-1, 0, true)", INDEX, () -> b.row(-1, 0, true));
        Check.dueThrow("row(0, 5, true)", INDEX, () -> b.row(0, 5, true));
        Check.dueThrow("row(0, -1, false)", INDEX, () -> b.row(0, -1, false));
        Check.due("fades(1, 0)", b.fades(1, 0), 0);
        wrongYards("fades", (yards, light) -> () -> b.fades(yards, light));
    }

    private interface Asked {
        Check.Call by(int yards, int light);
    }

    private static void wrongYards(String name, Asked asked) {
        int[][] wrong = {{0, 0}, {61, 0}, {1, -1}, {1, 10}, {-1, 5}, {Integer.MAX_VALUE, 0}, {1, Integer.MIN_VALUE}};
        for (int[] w : wrong) {
            Check.dueThrow(name + "(" + w[0] + ", " + w[1] + ")", ARGUMENT, asked.by(w[0], w[1]));
        }
    }

    private interface Told {
        Check.Call by(int white);
    }

    private static void wrongWhites(String name, Told told) {
        for (int white : new int[] {-1, 2001, Integer.MIN_VALUE, Integer.MAX_VALUE}) {
            Check.dueThrow(name + "(" + white + ")", ARGUMENT, told.by(white));
        }
    }

    // ---- promise 13

    private static void shifts() {
        SignBoard b = board();
        Check.due("shift(2, 0)", b.shift(2, 0), 3);
        Check.due("shift(2, 30)", b.shift(2, 30), 0);
        Check.due("shift(2, 30) again", b.shift(2, 30), 30);
        Check.due("acts", b.count(15), 3);
        Check.due("begin of what is behind", b.letter(3, 3), 2 + 4 + 3 + 6 + 3 + 4 + 30);
        Check.due("begin of what is ahead", b.letter(2, 3), 18);
        Check.dueThrow("shift(2, 31)", ARGUMENT, () -> b.shift(2, 31));
        Check.dueThrow("shift(2, -1)", ARGUMENT, () -> b.shift(2, -1));
        Check.dueThrow("shift(3, 31)", INDEX, () -> b.shift(3, 31));
        Check.dueThrow("shift(-1, 3)", INDEX, () -> b.shift(-1, 3));
        Check.due("a call that throws is no act", b.count(15), 3);
    }

    // ---- promise 14

    private static void squeezes() {
        SignBoard b = Check.board(BAR + ";sign open wide 3 left 00000 right 00000;word 0 1");
        Check.due("squeezed(0, 1)", b.squeezed(0, 1), 0);
        Check.due("width", b.letter(0, 2), 1);
        Check.dueThrow("squeezed(0, 2) of width 2", ARGUMENT, () -> b.squeezed(0, 2));
        Check.due("squeezed(1, 2)", b.squeezed(1, 2), 0);
        Check.dueThrow("squeezed(1, 3) of width 3", ARGUMENT, () -> b.squeezed(1, 3));
        Check.due("squeezed(1, 0)", b.squeezed(1, 0), 2);
        Check.dueThrow("squeezed(1, -1)", ARGUMENT, () -> b.squeezed(1, -1));
        Check.dueThrow("squeezed(1, 4)", ARGUMENT, () -> board().squeezed(1, 4));
        Check.dueThrow("squeezed(2, 9)", INDEX, () -> b.squeezed(2, 9));
        Check.dueThrow("squeezed(-1, 0)", INDEX, () -> b.squeezed(-1, 0));
        Check.due("acts", b.count(15), 3);
    }

    // ---- promise 15

    private static void shadows() {
        SignBoard b = board();
        Check.due("shadow(9)", b.shadow(9), 0);
        Check.due("white with shadow", b.gap(0, 1), 4);
        Check.due("shadow(2)", b.shadow(2), 9);
        Check.due("white with less shadow", b.gap(0, 1), 9);
        Check.dueThrow("shadow(10)", ARGUMENT, () -> b.shadow(10));
        Check.dueThrow("shadow(-1)", ARGUMENT, () -> b.shadow(-1));
        Check.due("count(5)", b.count(5), 2);
        Check.due("placing is not changed", b.count(12), 29);
    }

    // ---- promises 16, 21

    private static void laysAndLaid() {
        SignBoard b = board();
        // 18 hairs for three gaps of whites 4, 4, 15 and 5 more a hair, 60 at most
        Check.due("laid(30, NONE)", b.laid(30, NONE), 4 + 4 + 15);
        int[] due = {7, 7, 4};
        for (int k = 0; k < 3; k++) {
            Check.due("laid(39, " + k + ")", b.laid(39, k), due[k]);
        }
        Check.due("laid(39, 3)", b.laid(39, 3), NONE);
        Check.due("laid(39, -2)", b.laid(39, -2), NONE);
        // all far below: 2000 is off by the same however the 18 are given, so the first gap has the least
        Check.due("laid(2000, 0)", b.laid(2000, 0), 0);
        Check.due("laid(2000, 1)", b.laid(2000, 1), 9);
        Check.due("laid(2000, 2)", b.laid(2000, 2), 9);
        wrongWhites("laid", white -> () -> b.laid(white, 0));
        wrongWhites("lays", white -> () -> b.lays(white));
        Check.due("laid changed nothing", b.gap(0, 0), 3);
        Check.due("lays(39)", b.lays(39), b.laid(39, NONE));
        for (int gap = 0; gap < 3; gap++) {
            Check.due("distance " + gap + " as laid", b.gap(gap, 0), due[gap]);
        }
        Check.due("it ends just at the margin", b.count(12), 38);
        b.shadow(3);
        b.lays(0);
        Check.due("it ends, with shadow, just at the margin", b.count(12), 35);
        // too short, and too long for 30 a gap
        Check.shop(b, "board 20 margin 2");
        Check.due("laid on a short board", b.laid(39, NONE), NONE);
        Check.due("laid on a short board, a distance", b.laid(39, 0), NONE);
        int acts = b.count(15);
        Check.dueThrow("lays on a short board", STATE, () -> b.lays(39));
        Check.dueThrow("lays(2001) on a short board", ARGUMENT, () -> b.lays(2001));
        Check.due("what is refused is no act", b.count(15), acts);
        Check.shop(b, "board 120 margin 0;word 0 0");
        Check.due("laid on a long board", b.laid(0, NONE), NONE);
        Check.shop(b, "board 38 margin 0");
        b.shadow(0);
        Check.due("laid with 30 hairs", b.laid(0, 0), 30);
        // one letter: it fills the board or it does not
        Check.shop(b, "board 10 margin 3;word 0");
        Check.due("laid of one letter that ends there", b.laid(9, NONE), 0);
        Check.due("laid of one letter has no distance", b.laid(9, 0), NONE);
        Check.due("lays of one letter", b.lays(9), 0);
        b.squeezed(0, 1);
        Check.due("laid of one letter that does not", b.laid(9, NONE), NONE);
    }

    // ---- promise 17

    private static void paints() {
        SignBoard b = bars(5);
        int[] order = {0, 2, 4, 1, 3, NONE, NONE};
        for (int day = 0; day < order.length; day++) {
            Check.due("paint on day " + day, b.paint(0), order[day]);
        }
        Check.due("days", b.count(11), 7);
        Check.due("painted", b.count(13), 31);
        Check.due("day of letter 3", b.letter(3, 4), 4);
        Check.due("rows of the log", b.count(14), 5);
        SignBoard two = bars(2);
        Check.due("of two the first", two.paint(0), 0);
        Check.due("of two none", two.paint(0), NONE);
        Check.due("of two the second", two.paint(0), 1);
        Check.dueThrow("paint(1)", INDEX, () -> b.paint(1));
        Check.dueThrow("paint(-1)", INDEX, () -> b.paint(-1));
        SignBoard none = Check.board("writer white 9 slip 100");
        Check.due("paint without letters", none.paint(0), NONE);
        Check.due("a day all the same", none.count(11), 1);
        Check.due("no draw", none.seed(1), 1);
        Check.due("an act all the same", none.count(15), 1);
    }

    // ---- promises 17, 47: slips and draws. From SEED 1 the draws are 16838, 5758, 10113, 17515, 31051, 5627

    private static void slipsAndDraws() {
        SignBoard b = Check.board(BAR + ";writer white 1 slip 38;writer white 1 slip 39;writer white 1 slip 100;word 0 0 0");
        b.paint(0);
        Check.due("38 is not below 38", b.gap(0, 0), 3);
        Check.due("one draw", b.seed(1), 1103527590);
        Check.shop(b, "word 0 0 0");
        b.paint(1);
        Check.due("38 is below 39, 5758 is even: less", b.gap(0, 0), 2);
        b.seed(1103527590);
        b.paint(2);
        Check.due("58 is below 100, 10113 is odd: more, ahead of the last", b.gap(1, 0), 4);
        Check.due("log of it", b.log(0, 3), 1);
        Check.due("log of the one before", b.log(1, 3), -1);
        // a distance stays within 0 to 30: a slip that changes nothing
        Check.shop(b, "word 0 0 0");
        b.seed(1);
        b.shift(0, 0);
        b.paint(2);
        Check.due("0 stays", b.gap(0, 0), 0);
        Check.due("log of what stays", b.log(0, 3), 0);
        b.shift(1, 30);
        b.seed(1103527590);
        b.paint(2);
        Check.due("30 stays", b.gap(1, 0), 30);
        // one letter has no distance: the first draw alone
        Check.shop(b, "word 0");
        b.seed(1);
        Check.due("paint the one", b.paint(2), 0);
        Check.due("no slip, no draw more", b.seed(0), 1103527590);
        Check.due("seed(n) tells what it was", b.seed(Integer.MIN_VALUE), 0);
        Check.due("any int is a seed", b.seed(7), Integer.MIN_VALUE);
    }

    // ---- promises 18, 19

    private static void unevenAndOff() {
        SignBoard b = board();
        Check.due("uneven()", b.uneven(), 11);
        Check.due("off(19)", b.off(19), 11);
        Check.due("off(25)", b.off(25), 6 + 6 + 5);
        Check.due("off(2000)", b.off(2000), 1981 + 1981 + 1970);
        wrongWhites("off", white -> () -> b.off(white));
        b.shift(2, 0);
        Check.due("uneven() then", b.uneven(), 4);
        Check.law(b, "weigh 3 if row < 1");
        Check.due("uneven() by the law", b.uneven(), 3 * (5 - 3));
        Check.due("uneven() of one gap", bars(2).uneven(), 0);
        Check.due("off of one gap", bars(2).off(20), 5);
    }

    // ---- promises 20, 22

    private static void fitsAndBest() {
        SignBoard b = board();
        b.shift(2, 12);
        Check.due("it ends at 38", b.count(12), 38);
        Check.due("fits()", b.fits(), true);
        b.shadow(1);
        Check.due("fits() with shadow", b.fits(), false);
        b.squeezed(0, 1);
        Check.due("fits() squeezed", b.fits(), true);
        Check.due("best(false)", board().best(false), 39);
        Check.due("best(true)", board().best(true), 4);
        SignBoard even = bars(3);
        // 50 hairs for two gaps: 25 each, at the cap of 12 both are 60, as are many more
        Check.due("best of two", even.best(false), 60);
        Check.due("best of two is not off", even.best(true), 0);
        Check.shop(even, "cap 99");
        Check.due("best above 120", even.best(false), 120);
        Check.due("off of it: one 100 and one 150, or alike", even.best(true), 10);
        Check.shop(even, "board 10 margin 4");
        Check.due("best of none", even.best(false), NONE);
        Check.due("off of none", even.best(true), NONE);
        Check.due("best of one letter that does not fill", bars(1).best(false), NONE);
        SignBoard one = Check.board(BAR + ";board 10 margin 4;word 0");
        Check.due("best of one letter that fills", one.best(false), 0);
        Check.due("off of it", one.best(true), 0);
    }

    // ---- promises 23, 24

    private static void nearestAndCannot() {
        SignBoard b = board();
        Check.due("nearest(0, 29)", b.nearest(0, 29), 5);
        Check.due("nearest(0, 31)", b.nearest(0, 31), 5);
        Check.due("nearest(0, 32)", b.nearest(0, 32), 6);
        Check.due("nearest(0, 0)", b.nearest(0, 0), 0);
        Check.due("nearest(0, 2000), the least at the cap", b.nearest(0, 2000), 12);
        Check.shop(b, "word 0 0;cap 99");
        Check.law(b, "weigh 2");
        Check.due("nearest of two as near", b.nearest(0, 15), 1);
        b.shadow(4);
        Check.due("nearest with shadow", b.nearest(0, 20), 6);
        Check.due("nearest to 0 with shadow", b.nearest(0, 0), 0);
        b.shadow(0);
        // the weight goes by the distance that is tried
        Check.law(b, "weigh 1 if gap > 20;weigh 1 if gap < 3");
        Check.due("nearest by distances tried", b.nearest(0, 100), 21);
        Check.due("nearest 11 by distances tried", b.nearest(0, 11), 2);
        wrongWhites("nearest", white -> () -> b.nearest(0, white));
        Check.dueThrow("nearest(1, 2001)", INDEX, () -> b.nearest(1, 2001));
        Check.dueThrow("nearest(-1, 0)", INDEX, () -> b.nearest(-1, 0));
        SignBoard c = board();
        Check.due("cannot(15)", c.cannot(15), 0);
        Check.due("cannot(14)", c.cannot(14), 4);
        Check.due("cannot(4)", c.cannot(4), 4);
        Check.due("cannot(3)", c.cannot(3), 7);
        wrongWhites("cannot", white -> () -> c.cannot(white));
    }

    // ---- promises 25, 26, 27

    private static void lacksSqueezeDropped() {
        SignBoard b = board();
        Check.due("lacks(0)", b.lacks(0), 22 - 40);
        Check.due("lacks(60)", b.lacks(60), 22 + 12 + 12 + 9 - 40);
        Check.due("lacks(61), 30 each", b.lacks(61), 22 + 90 - 40);
        Check.due("squeeze(60): 15 of 12 that can be", b.squeeze(60, false), NONE);
        Check.due("squeeze(60), which", b.squeeze(60, true), NONE);
        // at 50: 10 + 10 + 7, so 9 are lacking: all four by 2 and one by 3, or as many of the thin one
        Check.due("lacks(50)", b.lacks(50), 9);
        Check.due("squeeze(50)", b.squeeze(50, false), 9 * 5 + 4 * (20 + 22 + 20));
        Check.due("squeeze(50), which", b.squeeze(50, true), 15);
        // at 35: 7 + 7 + 4, just there
        Check.due("squeeze(35)", b.squeeze(35, false), 0);
        Check.due("squeeze(35), which", b.squeeze(35, true), 0);
        // at 36: 7 + 7 + 5, one is lacking
        Check.due("squeeze(36)", b.squeeze(36, false), 5);
        Check.due("squeeze(36), which", b.squeeze(36, true), 4);
        b.squeezed(2, 1);
        Check.due("what is squeezed already stays", b.squeeze(44, false), 20 + 22 + 20);
        Check.due("which of the others", b.squeeze(44, true), 11);
        b.shadow(9);
        Check.due("lacks with shadow", b.lacks(0), 21 + 9 - 40);
        wrongWhites("lacks", white -> () -> b.lacks(white));
        wrongWhites("squeeze", white -> () -> b.squeeze(white, true));
        wrongWhites("dropped", white -> () -> b.dropped(white));
        // of two alike the latter is squeezed
        SignBoard two = Check.board("sign open wide 5 left 00000 right 00000;board 12 margin 0;word 0 0");
        Check.due("squeeze of two alike", two.squeeze(15, false), 25);
        Check.due("which of two alike", two.squeeze(15, true), 2);
        Check.due("squeeze of two alike by 5", two.squeeze(35, false), 25 * (4 + 9));
        Check.due("both", two.squeeze(35, true), 3);
        Check.due("squeeze by 6", two.squeeze(40, false), 25 * 18);
        Check.due("squeeze by 7", two.squeeze(45, false), NONE);
        SignBoard thin = Check.board(BAR + ";board 10 margin 4;word 0 0");
        Check.due("width 1 stays", thin.squeeze(0, false), 20);
        Check.due("both by one", thin.squeeze(0, true), 3);
        Check.due("no more", thin.squeeze(1, false), NONE);
        SignBoard all = Check.board("sign open wide 11 left 00000 right 00000;board 120 margin 4;word" + " 0".repeat(14));
        Check.due("as many as can be lack", all.lacks(0), 42);
        Check.due("all 14 by 3", all.squeeze(0, false), 14 * 9 * 55);
        Check.due("all 14", all.squeeze(0, true), (1 << 14) - 1);
        all.shadow(1);
        Check.due("one more than can be lacks", all.squeeze(0, false), NONE);
        SignBoard d = board();
        Check.due("dropped(35)", d.dropped(35), 0);
        Check.due("dropped(36)", d.dropped(36), 1);
        // at 60 three have 14 + 24 + 4, two have 10 + 12 + 4
        Check.due("dropped(60)", d.dropped(60), 2);
        Check.due("dropped(61)", d.dropped(61), 3);
        Check.shop(d, "board 10 margin 4");
        Check.due("dropped: not even one", d.dropped(0), NONE);
    }

    // ---- promise 28

    private static void middles() {
        Check.due("middle", board().middle(false), 13);
        Check.due("askew", board().middle(true), -7);
        SignBoard b = Check.board("sign open wide 4 left 00000 right 33333;board 21 margin 3;word 0");
        Check.due("middle of a bar", b.middle(false), 4);
        Check.due("askew of an odd board", b.middle(true), 4 - 10);
        b.squeezed(0, 1);
        Check.due("without ink", b.middle(false), 0);
        b.squeezed(0, 3);
        Check.due("right of more than the width", b.middle(false), 0);
        SignBoard two = bars(2);
        Check.due("half of two alike is behind the first", two.middle(false), 4);
        two.shift(0, 30);
        Check.due("wherever the second is", two.middle(false), 4);
        two.squeezed(0, 1);
        Check.due("then in the second", two.middle(false), 2 + 1 + 30 + 1);
    }

    // ---- promises 29, 30, 31

    private static void reads() {
        SignBoard b = board();
        Check.shop(b, "colour 10");
        b.shift(0, 4);
        b.shift(1, 2);
        b.shift(2, 0);
        Check.due("read(20, 0)", b.read(20, 0), true);
        Check.due("read(21, 0)", b.read(21, 0), false);
        Check.due("far(0)", b.far(0), 20);
        Check.due("runs(20, 0)", b.runs(20, 0), 0);
        Check.due("runs(21, 0)", b.runs(21, 0), 2);
        Check.due("runs(31, 0)", b.runs(31, 0), 6);
        Check.due("runs(41, 0)", b.runs(41, 0), 7);
        b.shadow(2);
        Check.due("runs(1, 0) with shadow", b.runs(1, 0), 2);
        Check.due("far(0) with shadow", b.far(0), 0);
        b.shadow(0);
        Check.law(b, "fade 9 if light < 5;fade 99 if yards > 1 and light < 1;weigh 0");
        Check.due("far(0), faded", b.far(0), 1);
        Check.due("far(1), faded", b.far(1), 2);
        Check.due("far(5)", b.far(5), 20);
        Check.due("read(1, 0), faded", b.read(1, 0), true);
        Check.due("read(2, 0), faded", b.read(2, 0), false);
        Check.due("runs(2, 0), faded more than there is", b.runs(2, 0), 7);
        Check.law(b, "fade 10 if yards > 4 and yards < 6");
        Check.due("far is at all fewer, too", b.far(0), 4);
        Check.due("and read beyond", b.read(6, 0), true);
        Check.shop(b, "word 0");
        Check.due("with no gap far goes by what is left", b.far(0), 4);
        Check.due("with no gap nothing runs together", b.runs(5, 0), 0);
        Check.due("with no gap not read", b.read(5, 0), false);
        Check.due("with no gap read", b.read(60, 0), true);
        wrongYards("read", (yards, light) -> () -> b.read(yards, light) ? 1 : 0);
        wrongYards("runs", (yards, light) -> () -> b.runs(yards, light));
        Check.dueThrow("far(-1)", ARGUMENT, () -> b.far(-1));
        Check.dueThrow("far(10)", ARGUMENT, () -> b.far(10));
    }

    // ---- promises 32, 33

    private static void bearsAndLamp() {
        SignBoard b = board();
        Check.due("bears(60, 0)", b.bears(60, 0), 1);
        Check.due("bears(50, 0)", b.bears(50, 0), 2);
        b.shadow(7);
        Check.due("bears goes by the shadow tried", b.bears(50, 0), 2);
        Check.due("bears changes nothing", b.count(5), 7);
        b.shadow(0);
        b.shift(0, 12);
        b.shift(1, 3);
        Check.due("ends at 38", b.count(12), 38);
        Check.due("bears what fits", b.bears(1, 0), 0);
        b.shift(0, 13);
        Check.due("bears none that fits", b.bears(1, 0), NONE);
        b.shift(0, 0);
        Check.due("bears none that is read", b.bears(1, 0), NONE);
        wrongYards("bears", (yards, light) -> () -> b.bears(yards, light));
        SignBoard c = board();
        Check.due("lamp of all alike", c.lamp(), 0);
        Check.law(c, "fade 40 if light < 3;fade 40 if light > 6");
        Check.due("lamp", c.lamp(), 3);
        Check.law(c, "fade 99");
        Check.due("lamp of none", c.lamp(), 0);
        Check.law(c, "fade 40 if light < 9");
        Check.due("lamp, the last", c.lamp(), 9);
    }

    // ---- promises 34, 35

    private static void slants() {
        SignBoard b = board();
        Check.due("aslant(0)", b.aslant(0), b.uneven());
        Check.due("aslant(9)", b.aslant(9), 11);
        b.shift(2, 1);
        // 3, 3, 1 are seen as 3, 2, 0: whites 19, 14, 15
        Check.due("aslant(1)", b.aslant(1), 19 - 14);
        Check.due("from(), of several the least", b.from(), 0);
        b.shift(2, 2);
        // 3, 3, 2: whites 19, 19, 25, seen as 3, 2, 1: 19, 14, 20
        Check.due("aslant(1) then", b.aslant(1), 6);
        Check.due("aslant(0) then", b.aslant(0), 6);
        b.shift(0, 2);
        b.shift(2, 1);
        // 2, 3, 1: whites 14, 19, 20, seen as 2, 2, 0: 14, 14, 15
        Check.due("aslant(0) at last", b.aslant(0), 6);
        Check.due("aslant(1) at last", b.aslant(1), 1);
        Check.due("from()", b.from(), 1);
        SignBoard many = bars(14);
        many.shift(12, 30);
        // 100 less 9 times 12 is below 0
        Check.due("aslant(9) of the last", many.aslant(9), 15);
        Check.law(many, "weigh 1 if gap > 2");
        Check.due("the law sees what is seen", many.aslant(9), 15);
        Check.due("from() of many", many.from(), fromOfMany(many));
        Check.dueThrow("aslant(-1)", ARGUMENT, () -> b.aslant(-1));
        Check.dueThrow("aslant(10)", ARGUMENT, () -> b.aslant(10));
    }

    private static int fromOfMany(SignBoard b) {
        int from = 0;
        for (int a = 1; a <= 9; a++) {
            from = b.aslant(a) < b.aslant(from) ? a : from;
        }
        return from;
    }

    // ---- promise 36

    private static void endsFromBothSides() {
        SignBoard b = board();
        Check.due("ends(3)", b.ends(3), 12);
        Check.due("ends(9)", b.ends(9), 0);
        Check.due("ends(30), below 0", b.ends(30), -42);
        b.shadow(5);
        Check.due("ends with shadow", b.ends(9), -5);
        Check.due("ends of two", bars(2).ends(30), 60 - 4 - 4);
        Check.due("ends of three", bars(3).ends(10), 60 - 4 - 6 - 10);
        Check.due("ends of one", bars(1).ends(10), -999);
        Check.dueThrow("ends(31)", ARGUMENT, () -> b.ends(31));
        Check.dueThrow("ends(-1)", ARGUMENT, () -> b.ends(-1));
        Check.dueThrow("ends(-1) of one", ARGUMENT, () -> bars(1).ends(-1));
    }

    // ---- promises 37, 38

    private static void orders() {
        SignBoard b = board();
        int[] order = {0, 2, NONE, 1, 3, NONE};
        Check.due("order(NONE)", b.order(NONE), 5);
        for (int k = 0; k < order.length; k++) {
            Check.due("order(" + k + ")", b.order(k), order[k]);
        }
        Check.due("order(-2)", b.order(-2), NONE);
        Check.due("order(Integer.MAX_VALUE)", b.order(Integer.MAX_VALUE), NONE);
        Check.due("brush()", b.brush(), 4);
        b.paint(1);
        Check.due("order(NONE) a day later", b.order(NONE), 4);
        Check.due("order(0) a day later", b.order(0), 2);
        Check.due("brush() a day later: three in a row", b.brush(), 4);
        b.paint(1);
        Check.due("brush() with both beside the wet one", b.brush(), 3);
        for (int k = 2; k < 5; k++) {
            Check.due("it is painted as told", b.paint(1), order[k]);
        }
        Check.due("order(NONE) of all painted", b.order(NONE), 0);
        Check.due("brush() of all painted", b.brush(), 0);
        Check.due("brush() of 12", bars(12).brush(), 12);
        Check.due("brush() of 13", bars(13).brush(), -3);
        SignBoard thirteen = bars(13);
        thirteen.paint(0);
        Check.due("brush() of 12 that are left", thirteen.brush(), 12);
        Check.due("brush() of two", bars(2).brush(), 3);
        Check.due("brush() of three", bars(3).brush(), 4);
    }

    // ---- promises 39, 40

    private static void oldBoards() {
        SignBoard b = Check.board("writer white 100 slip 0;writer white 120 slip 0;writer white 999 slip 0;writer white 100 slip 5");
        wrote(b, 0, 110);
        wrote(b, 1, 111);
        wrote(b, 0, 109);
        wrote(b, 2, 65535, 0, 2000);
        wrote(b, 0);
        Check.tape(b, "abc");
        Check.dueThrow("wrote() of three bytes", ARGUMENT, b::wrote);
        Check.due("the tape is used up", b.end(1), false);
        Check.whites(b, 89, 90, 100, 110, 111, 356);
        Check.due("likely(0)", b.likely(0), 3);
        Check.due("the tape is used up", b.end(1), false);
        Check.due("likely of none", b.likely(0), 0);
        int[] many = new int[200];
        many[199] = 100;
        Check.whites(b, many);
        Check.due("likely of a full tape", b.likely(0), 1);
        many[199] = 65535;
        Check.whites(b, many);
        Check.due("wrote of a full tape", b.wrote(), 0);
        Check.tape(b, "abc");
        Check.dueThrow("likely(0) of three bytes", ARGUMENT, () -> b.likely(0));
        Check.due("the tape is used up", b.end(1), false);
        Check.tape(b, "abc");
        Check.dueThrow("likely(4) of three bytes", INDEX, () -> b.likely(4));
        Check.due("the tape is used up", b.end(1), false);
        Check.tape(b, "abcd");
        Check.dueThrow("likely(-1)", INDEX, () -> b.likely(-1));
        Check.due("the tape is used up", b.end(1), false);
        Check.wrongShop(b, "cap 0", 4);
        Check.tape(b, "abc");
        Check.dueThrow("wrote() of three bytes", ARGUMENT, b::wrote);
        Check.due("whites are no text", b.fault(), 4);
    }

    private static void wrote(SignBoard b, int due, int... whites) {
        Check.whites(b, whites);
        Check.due("wrote() of " + whites.length + " whites", b.wrote(), due);
        Check.due("the tape is used up", b.end(1), false);
    }

    // ---- promises 41, 42

    private static void lookersAndInch() {
        SignBoard b = Check.board(SIGNS, WORD, "looker 0;looker 11;looker 12;looker 200;looker 13");
        Check.due("lookers: uneven 11 is below", b.lookers(false), 3);
        Check.due("twos: 3 of three, 1 of two", b.lookers(true), 4);
        b.shift(2, 0);
        Check.due("lookers of uneven 4", b.lookers(false), 4);
        Check.due("twos: 6 of four", b.lookers(true), 6);
        SignBoard c = board();
        Check.due("inch(39)", c.inch(39), c.laid(39, NONE) - 21);
        wrongWhites("inch", white -> () -> c.inch(white));
        Check.shop(c, "board 12 margin 2");
        Check.due("inch, now none", c.inch(39), -9999);
        Check.shop(c, "board 40 margin 2;word 0 0");
        // 28 hairs now, 40 then
        Check.due("inch, then none", c.inch(39), -9999);
        Check.shop(c, "board 30 margin 2;cap 99");
        // 18 hairs now, 30 then: 90 and 150
        Check.due("inch(120)", c.inch(120), 0);
        Check.due("inch(150)", c.inch(150), 60);
        Check.due("inch(0)", c.inch(0), -60);
        Check.shop(c, "board 120 margin 0;word 0 0 0 0 0 0");
        // 96 hairs now, 108 then, of 150 for five gaps
        Check.due("inch on the longest board", c.inch(2000), 60);
    }

    // ---- promises 43, 44

    private static void trialsAndSpans() {
        SignBoard b = board();
        Check.due("trial(0, 0)", b.trial(0, 0, false), 11);
        Check.due("trial of days, painted", b.trial(1, 2, true), 2);
        Check.due("trial of three days: one is none", b.trial(1, 3, true), 2);
        Check.due("trial of 40", b.trial(1, 40, true), 4);
        Check.due("without slips it stays", b.trial(1, 40, false), 11);
        // from seed 1: letter 0 makes gap 0 less, letter 2 (draws 10113, 17515) makes gap 2 more
        Check.due("trial(0, 1)", b.trial(0, 1, false), 30 - 14);
        Check.due("trial(0, 2)", b.trial(0, 2, false), 35 - 14);
        Check.due("nothing stays: days", b.count(11), 0);
        Check.due("nothing stays: painted", b.count(13), 0);
        Check.due("nothing stays: seed", b.seed(1), 1);
        Check.due("nothing stays: log", b.count(14), 0);
        Check.due("nothing stays: acts", b.count(15), 0);
        b.paint(1);
        Check.due("trial counts what was painted", b.trial(1, 0, true), 1);
        SignBoard c = board();
        int least = Integer.MAX_VALUE;
        int most = 0;
        for (int seed = 1; seed <= 6; seed++) {
            c.seed(seed);
            least = Math.min(least, c.trial(0, 5, false));
            most = Math.max(most, c.trial(0, 5, false));
        }
        Check.due("span, the least", c.span(0, 5, false), least);
        Check.due("span, the greatest", c.span(0, 5, true), most);
        Check.due("they differ", least < most, true);
        Check.due("span leaves the seed", c.seed(1), 6);
        Check.due("span(0, 0)", c.span(0, 0, true), 11);
        for (int n : new int[] {-1, 41, Integer.MAX_VALUE}) {
            Check.dueThrow("trial(0, " + n + ")", ARGUMENT, () -> c.trial(0, n, true));
            Check.dueThrow("span(0, " + n + ")", ARGUMENT, () -> c.span(0, n, true));
        }
        Check.dueThrow("trial(2, 41)", INDEX, () -> c.trial(2, 41, true));
        Check.dueThrow("span(2, 41)", INDEX, () -> c.span(2, 41, true));
        Check.dueThrow("trial(-1, 0)", INDEX, () -> c.trial(-1, 0, true));
        Check.dueThrow("span(-1, 0)", INDEX, () -> c.span(-1, 0, true));
    }

    // ---- promises 45, 46

    private static void logs() {
        SignBoard b = board();
        b.paint(0);
        b.paint(1);
        b.paint(1);
        b.paint(0);
        int[][] due = {{3, 1, 0, b.log(0, 3)}, {1, 2, 1, 0}, {0, 0, 0, -1}};
        for (int ago = 0; ago < 3; ago++) {
            for (int what = 0; what < 4; what++) {
                Check.due("log(" + ago + ", " + what + ")", b.log(ago, what), due[ago][what]);
            }
        }
        Check.due("the latest was a slip", Math.abs(b.log(0, 3)), 1);
        Check.due("log(3, 0)", b.log(3, 0), -99);
        Check.due("log(-1, 0)", b.log(-1, 0), -99);
        Check.dueThrow("log(0, 4)", ELEMENT, () -> b.log(0, 4));
        Check.dueThrow("log(9, -1)", ELEMENT, () -> b.log(9, -1));
        Check.due("slips(NONE)", b.slips(NONE), 2);
        Check.due("slips(0)", b.slips(0), 2);
        Check.due("slips(1)", b.slips(1), 0);
        Check.dueThrow("slips(2)", INDEX, () -> b.slips(2));
        Check.dueThrow("slips(-2)", INDEX, () -> b.slips(-2));
        SignBoard many = Check.board(BAR + ";writer white 1 slip 100;writer white 1 slip 0");
        for (int word = 0; word < 8; word++) {
            Check.shop(many, "word 0 0 0 0 0 0 0 0 0 0");
            for (int day = 0; day < 10; day++) {
                many.paint(word == 0 ? 0 : 1);
            }
        }
        Check.due("80 letters on 80 days", many.count(11), 80);
        Check.due("the latest 60", many.count(14), 60);
        Check.due("the latest", many.log(0, 0), 79);
        Check.due("the earliest", many.log(59, 0), 20);
        Check.due("none before", many.log(60, 0), -99);
        Check.due("what is gone does not count", many.slips(NONE), 0);
    }

    // ---- promise 48

    private static void undos() {
        SignBoard b = board();
        b.seed(77);
        b.paint(0);
        b.seed(5);
        b.shift(0, 9);
        b.seed(6);
        Check.due("undo the shift", b.undo(), true);
        Check.due("the seed is as ahead of it", b.seed(5), 5);
        Check.due("undo the painting", b.undo(), true);
        Check.due("the seed is as ahead of that", b.seed(77), 77);
        Check.due("days", b.count(11), 0);
        Check.due("rows of the log", b.count(14), 0);
        Check.due("painted", b.count(13), 0);
        Check.due("nothing is wet", b.order(0), 0);
        Check.due("no more", b.undo(), false);
        for (int i = 0; i < 15; i++) {
            b.shift(0, i);
        }
        Check.due("12 are remembered", b.count(15), 12);
        for (int i = 0; i < 12; i++) {
            Check.due("undo " + i, b.undo(), true);
            Check.due("distance then", b.gap(0, 0), 13 - i);
        }
        Check.due("the 13th is not", b.undo(), false);
        Check.due("it stays", b.gap(0, 0), 2);
        // acts that change nothing are remembered, too
        b.shift(0, 2);
        b.squeezed(0, 0);
        b.shadow(0);
        b.lays(39);
        b.lays(39);
        b.paint(1);
        Check.due("six acts", b.count(15), 6);
        b.undo();
        b.undo();
        Check.due("still laid", b.gap(0, 0), 7);
        b.undo();
        Check.due("no longer laid", b.gap(0, 0), 2);
        Check.due("three acts", b.count(15), 3);
        // a wrong text, and what is no act, leave them; a right text and going back do not
        Check.wrongShop(b, "cap 0", 4);
        Check.wrongLaw(b, "x", 0);
        b.image();
        b.seed(3);
        Check.due("three acts still", b.count(15), 3);
        Check.due("undo leaves fault()", b.undo() ? b.fault() : 99, 0);
        Check.tape(b, "abcd");
        b.undo();
        Check.due("undo leaves the tape", b.end(4), true);
        Check.due("undo leaves the image", b.back(), true);
        Check.due("going back forgets acts", b.count(15), 0);
        b.shift(0, 5);
        Check.shop(b, "");
        Check.due("a text of the shop forgets acts", b.undo(), false);
        b.shift(0, 6);
        Check.law(b, "");
        Check.due("a law forgets acts", b.undo(), false);
        b.shadow(3);
        Check.law(b, "weigh 1");
        b.shadow(0);
        int white = b.gap(1, 1);
        b.undo();
        Check.due("whites go by the shadow undone", b.gap(1, 1) < white, true);
    }

    // ---- promises 49, 50

    private static void images() {
        SignBoard b = board();
        Check.due("back() without", b.back(), false);
        b.image();
        Check.law(b, "weigh 2");
        Check.shop(b, BAR + ";cap 5;colour 9;board 99 margin 1;looker 5;writer white 5 slip 5;word 4 4");
        b.shadow(4);
        b.squeezed(0, 1);
        b.shift(0, 8);
        b.paint(0);
        Check.wrongShop(b, "cap 0", 4);
        Check.tape(b, "abcd");
        Check.due("back()", b.back(), true);
        int[] counts = {4, 4, 40, 2, 12, 0, 50, 2, 0, 2, NONE, 0, 29, 0, 0, 0};
        for (int what = 0; what < counts.length; what++) {
            Check.due("count(" + what + ") gone back to", b.count(what), counts[what]);
        }
        Check.due("white gone back to", b.gap(0, 1), 19);
        Check.due("squeeze gone back to", b.letter(0, 1), 0);
        Check.due("seed gone back to", b.seed(1), 1);
        Check.due("the tape stays", b.end(4), true);
        Check.due("fault() stays", b.fault(), 4);
        b.shift(0, 8);
        Check.due("the image stays", b.back(), true);
        Check.due("gone back to again", b.gap(0, 0), 3);
        b.shift(0, 8);
        b.image();
        Check.due("an image is no act", b.count(15), 1);
        b.shift(0, 9);
        b.back();
        Check.due("there is one image, the latest", b.gap(0, 0), 8);
    }

    // ---- promise 51

    private static void counts() {
        SignBoard b = board();
        Check.shop(b, "colour 7;cap 8;looker 1;looker 2;looker 3");
        Check.law(b, "weigh 1;fade 2;weigh 3");
        b.shadow(6);
        b.paint(0);
        b.paint(0);
        int[] counts = {4, 4, 40, 2, 8, 6, 7, 2, 3, 3, 3, 2, 0, 5, 2, 3};
        for (int what = 0; what < counts.length; what++) {
            int due = what == 12 ? b.letter(3, 3) + 4 : counts[what];
            Check.due("count(" + what + ")", b.count(what), due);
        }
        Check.due("count(-1)", b.count(-1), NONE);
        Check.due("count(16)", b.count(16), NONE);
        Check.due("count(Integer.MIN_VALUE)", b.count(Integer.MIN_VALUE), NONE);
        Check.due("NONE", SignBoard.NONE, -1);
    }
}
