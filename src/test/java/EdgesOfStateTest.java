/** The edges of what is remembered and kept (promises 1, 48 to 51): none, the twelfth and the thirteenth act, one image. */
public final class EdgesOfStateTest {
    private static final int NONE = SignBoard.NONE;
    private static final String BAR = "sign straight wide 2 left 00000 right 00000";

    private interface Act {
        void on(SignBoard board);
    }

    private static final Act[] ACTS = {b -> b.shift(0, 9), b -> b.shift(1, 0), b -> b.squeezed(0, 1), b -> b.squeezed(1, 0),
        b -> b.shadow(2), b -> b.shadow(0), b -> b.lays(39), b -> b.paint(0), b -> b.paint(1)};

    public static void main(String[] args) {
        newObject();
        undoOfNone();
        twelveActs();
        eachActIsUndone();
        actsThatChangeNothing();
        undoneAndDoneAgain();
        refusedIsNoAct();
        textsForget();
        wrongTextsDoNot();
        seedIsNoAct();
        undoLeavesTapeFaultAndImage();
        whitesBehindUndo();
        logBehindUndo();
        fullBoard();
        imageOfNone();
        imageOfAll();
        oneImage();
        imageLeavesTheActs();
        backForgets();
        backToFewerTexts();
        counts();
        Check.finish();
    }

    private static SignBoard board() {
        return Check.board(BAR + ";sign open wide 5 left 00000 right 11111;writer white 9 slip 100;writer white 9 slip 0;"
                + "board 40 margin 2;word 0 1 0");
    }

    // ---- promise 1

    private static void newObject() {
        for (int n : new int[] {NONE, 0, 1}) {
            SignBoard b = new SignBoard();
            Check.dueThrow("sign " + n, Twins.INDEX, () -> b.sign(n, 0));
            Check.dueThrow("side " + n, Twins.INDEX, () -> b.side(n, 0, true));
            Check.dueThrow("letter " + n, Twins.INDEX, () -> b.letter(n, 0));
            Check.dueThrow("gap " + n, Twins.INDEX, () -> b.gap(n, 0));
            Check.dueThrow("row " + n, Twins.INDEX, () -> b.row(n, 0, true));
            Check.dueThrow("shift " + n, Twins.INDEX, () -> b.shift(n, 0));
            Check.dueThrow("squeezed " + n, Twins.INDEX, () -> b.squeezed(n, 0));
            Check.dueThrow("nearest " + n, Twins.INDEX, () -> b.nearest(n, 0));
            Check.dueThrow("paint " + n, Twins.INDEX, () -> b.paint(n));
            Check.dueThrow("likely " + n, Twins.INDEX, () -> b.likely(n));
            Check.dueThrow("trial " + n, Twins.INDEX, () -> b.trial(n, 0, true));
            Check.dueThrow("span " + n, Twins.INDEX, () -> b.span(n, 0, true));
        }
        SignBoard one = new SignBoard();
        SignBoard other = new SignBoard();
        one.shadow(5);
        one.image();
        Check.due("another object is another board", other.count(5), 0);
        Check.due("and has no image", other.back(), false);
    }

    // ---- promise 48

    private static void undoOfNone() {
        for (Twins.Maker maker : new Twins.Maker[] {SignBoard::new, EdgesOfStateTest::board, Twins::empty}) {
            Twins.leaves("undo of none", 0, maker, b -> b.undo() ? 1 : 0);
        }
        SignBoard b = board();
        b.shift(0, 9);
        Check.due("undo of one", b.undo(), true);
        Check.due("undo of none", b.undo(), false);
        Check.due("the distance", b.gap(0, 0), 3);
    }

    private static void twelveActs() {
        for (int acts : new int[] {0, 1, 2, 11, 12, 13, 14, 24, 25, 40}) {
            SignBoard b = board();
            for (int act = 1; act <= acts; act++) {
                b.shift(0, act % 31);
            }
            int remembered = Math.min(12, acts);
            Check.due("remembered of " + acts, b.count(15), remembered);
            for (int back = 1; back <= remembered; back++) {
                Check.due("undo " + back + " of " + acts, b.undo(), true);
                int before = acts - back;
                Check.due("the distance then", b.gap(0, 0), before == 0 ? 3 : before % 31);
                Check.due("remembered then", b.count(15), remembered - back);
            }
            Check.due("one more than is remembered of " + acts, b.undo(), false);
            Check.due("it changes nothing", b.gap(0, 0), acts <= 12 ? 3 : (acts - 12) % 31);
        }
    }

    /** Behind each act, done and undone, all is as without it. */
    private static void eachActIsUndone() {
        for (Act act : ACTS) {
            Twins.leaves("an act undone", 1, () -> taped(board()), b -> {
                act.on(b);
                return b.undo() ? 1 : 0;
            });
            Twins.leaves("two acts undone", 1, () -> taped(board()), b -> {
                b.paint(0);
                act.on(b);
                return b.undo() && b.undo() ? 1 : 0;
            });
            Twins.leaves("a seed told in between goes, too", 1, () -> taped(board()), b -> {
                act.on(b);
                b.seed(99);
                return b.undo() ? 1 : 0;
            });
        }
        Twins.leaves("twelve acts undone", 1, () -> taped(board()), b -> {
            for (int act = 0; act < 12; act++) {
                ACTS[act % ACTS.length].on(b);
            }
            boolean undone = true;
            for (int act = 0; act < 12; act++) {
                undone &= b.undo();
            }
            return undone ? 1 : 0;
        });
    }

    private static SignBoard taped(SignBoard b) {
        Twins.leaveFault(b);
        Check.tape(b, "cap 7");
        return b;
    }

    private static void actsThatChangeNothing() {
        SignBoard b = board();
        b.shift(0, 3);
        Check.due("a distance that it has", b.count(15), 1);
        b.squeezed(0, 0);
        Check.due("a squeeze that it has", b.count(15), 2);
        b.shadow(0);
        Check.due("a shadow that it has", b.count(15), 3);
        b.lays(39);
        b.lays(39);
        Check.due("distances that they have", b.count(15), 5);
        for (int day = 0; day < 5; day++) {
            b.paint(1);
        }
        Check.due("a day on which nothing is painted", b.count(15), 10);
        Check.due("days", b.count(11), 5);
        b.undo();
        Check.due("it is undone as an act of its own", b.count(11), 4);
        b.undo();
        b.undo();
        b.undo();
        b.undo();
        b.undo();
        Check.due("laid once still", b.gap(0, 0) == 3 && b.gap(1, 0) == 3, false);
        b.undo();
        Check.due("not laid", b.gap(0, 0), 3);
        Check.due("three are left", b.count(15), 3);
    }

    private static void undoneAndDoneAgain() {
        SignBoard b = board();
        for (int act = 0; act < 20; act++) {
            b.shift(0, act);
            b.shift(0, 30);
            Check.due("undo", b.undo(), true);
            Check.due("the distance", b.gap(0, 0), act);
        }
        // the 13th takes the place of the first, and is undone itself
        Check.due("what is undone is not remembered", b.count(15), 11);
        for (int back = 1; back <= 11; back++) {
            Check.due("undo " + back, b.undo(), true);
            Check.due("the distance then", b.gap(0, 0), 19 - back);
        }
        Check.due("no more", b.undo(), false);
        b.shadow(3);
        Check.due("an act behind it", b.count(15), 1);
        Check.due("it is undone", b.undo(), true);
        Check.due("the shadow", b.count(5), 0);
        Check.due("the distance", b.gap(0, 0), 8);
    }

    private static void refusedIsNoAct() {
        SignBoard b = board();
        b.shift(0, 9);
        Check.dueThrow("shift", Twins.ARGUMENT, () -> b.shift(0, 31));
        Check.dueThrow("shift", Twins.INDEX, () -> b.shift(2, 3));
        Check.dueThrow("squeezed", Twins.ARGUMENT, () -> b.squeezed(0, 2));
        Check.dueThrow("squeezed", Twins.INDEX, () -> b.squeezed(3, 0));
        Check.dueThrow("shadow", Twins.ARGUMENT, () -> b.shadow(10));
        Check.dueThrow("lays", Twins.ARGUMENT, () -> b.lays(2001));
        Check.dueThrow("paint", Twins.INDEX, () -> b.paint(2));
        b.shadow(9);
        b.squeezed(1, 3);
        Check.shop(b, "board 10 margin 9");
        b.shift(0, 8);
        Check.dueThrow("lays", Twins.STATE, () -> b.lays(39));
        Check.due("one act", b.count(15), 1);
        b.undo();
        Check.due("it is undone", b.gap(0, 0), 9);
    }

    private static void textsForget() {
        for (String text : new String[] {"", " ", "cap 5", "word 0 0"}) {
            SignBoard b = board();
            b.shift(0, 9);
            b.shift(0, 8);
            Check.shop(b, text);
            Check.due("none is remembered behind '" + text + "'", b.count(15), 0);
            Check.due("none is undone", b.undo(), false);
            b.shift(0, 7);
            Check.due("the next is", b.count(15), 1);
            Check.law(b, text.equals("cap 5") ? "weigh 2" : "");
            Check.due("none is remembered behind a law", b.count(15), 0);
            Check.due("none is undone", b.undo(), false);
            Check.due("the distance stays", b.gap(0, 0), 7);
        }
    }

    private static void wrongTextsDoNot() {
        SignBoard b = Twins.allTold();
        Check.due("an act ahead", b.count(15), 1);
        Check.wrongShop(b, "cap 0", 4);
        Check.wrongLaw(b, "fade", 4);
        Check.tape(b, "cap 7");
        Check.dueThrow("a 13th text", Twins.UNSUPPORTED, b::shop);
        Check.tape(b, "abc");
        Check.dueThrow("whites that are none", Twins.ARGUMENT, b::wrote);
        Check.due("an act still", b.count(15), 1);
        Check.due("it is undone", b.undo(), true);
        Check.due("the distance", b.gap(1, 0), 3);
    }

    private static void seedIsNoAct() {
        SignBoard b = board();
        b.seed(5);
        Check.due("seed is no act", b.count(15), 0);
        Check.due("it is not undone", b.undo(), false);
        Check.due("it stays", b.seed(6), 5);
        b.shadow(1);
        b.seed(7);
        b.undo();
        Check.due("as ahead of the act", b.seed(8), 6);
        b.paint(0);
        b.undo();
        Check.due("the draws are undone", b.seed(9), 8);
    }

    private static void undoLeavesTapeFaultAndImage() {
        SignBoard b = board();
        b.shift(0, 9);
        b.shift(0, 8);
        b.image();
        Twins.leaveFault(b);
        Check.tape(b, "cap 7");
        b.undo();
        Check.due("fault()", b.fault(), 4);
        Check.due("the distance", b.gap(0, 0), 9);
        Check.due("the tape", b.end(6), false);
        Check.due("the text on it", b.shop(), 2);
        Check.due("cap", b.count(4), 7);
        Check.due("the image", b.back(), true);
        Check.due("the distance of the image", b.gap(0, 0), 8);
    }

    private static void whitesBehindUndo() {
        SignBoard b = board();
        int white = b.gap(0, 1);
        b.shadow(2);
        Check.due("white with shadow", b.gap(0, 1), white - 10);
        b.undo();
        Check.due("white behind undo", b.gap(0, 1), white);
        b.shadow(3);
        b.image();
        b.shadow(0);
        Check.due("white without shadow", b.gap(0, 1), white);
        b.back();
        Check.due("white behind back", b.gap(0, 1), white - 15);
    }

    /** So many rows of the log, of writers 0, 1, 0, ..: words of 10 letters are painted without a day between. */
    private static SignBoard logged(int rows) {
        String word = "word 0 0 0 0 0 0 0 0 0 0";
        SignBoard b = Check.board(BAR + ";writer white 9 slip 100;writer white 9 slip 0;" + word);
        for (int row = 0; row < rows; row++) {
            if (row % 10 == 0 && row > 0) {
                Check.shop(b, word);
            }
            b.paint(row % 2);
        }
        return b;
    }

    /** A row too many takes the place of the earliest: undone, or gone back, that is there again. */
    private static void logBehindUndo() {
        for (int rows : new int[] {61, 62, 75, 76, 77, 95, 117, 118, 119}) {
            for (boolean image : new boolean[] {false, true}) {
                SignBoard b = logged(rows);
                String of = " of " + rows + " rows";
                Check.due("the earliest" + of, b.log(59, 0), rows - 60);
                b.image();
                b.paint(1 - rows % 2);
                Check.due("the earliest is gone" + of, b.log(59, 0), rows - 59);
                Check.due("gone back, or undone" + of, image ? b.back() : b.undo(), true);
                Check.due("the earliest is there again" + of, b.log(59, 0), rows - 60);
                Check.due("its writer" + of, b.log(59, 2), rows % 2);
                Check.due("slips" + of, b.slips(1), 0);
                Check.due("none beyond" + of, b.log(60, 0), -99);
                Check.due("the latest" + of, b.log(0, 0), rows - 1);
                Check.due("its writer" + of, b.log(0, 2), (rows - 1) % 2);
            }
        }
    }

    // ---- as much as there can be of all

    /** Sign n: 12 wide, its last row's LEFT and RIGHT tell n. */
    private static String signOf(int n) {
        return "sign " + (n % 2 == 0 ? "round" : "open") + " wide " + (n == 11 ? 11 : 12) + " left 1000" + n % 10
                + " right 0200" + n / 10;
    }

    private static SignBoard full() {
        SignBoard b = new SignBoard();
        for (int sign = 0; sign < 12; sign += 3) {
            Check.shop(b, signOf(sign) + ";" + signOf(sign + 1) + ";" + signOf(sign + 2));
        }
        Check.shop(b, "writer white 1 slip 1;writer white 2 slip 2;writer white 3 slip 3;writer white 4 slip 4;"
                + "writer white 5 slip 5;writer white 996 slip 100;word 0 1 2 3 4 5 6 7 8 9 10 11 0 11");
        Check.shop(b, "looker 1;looker 2;looker 3;looker 4;looker 5;looker 6;looker 7;looker 200;board 119 margin 8;"
                + "cap 98;colour 97");
        Check.law(b, "fade 1;fade 2;fade 3;fade 4;fade 5;fade 6;fade 7;fade 8;fade 9;fade 10;"
                + "fade 11;weigh 9 if row > 3 and not slant");
        b.shift(12, 20);
        b.squeezed(13, 3);
        for (int day = 0; day < 15; day++) {
            b.paint(5);
        }
        return b;
    }

    private static void fullIsThere(SignBoard b, String when) {
        Check.due("sort of the 12th sign " + when, b.sign(11, 0), 3);
        Check.due("width of the 12th sign " + when, b.sign(11, 1), 11);
        Check.due("sides of the 12th sign " + when, 10 * b.side(11, 4, true) + b.side(11, 4, false), 11);
        Check.due("sides of the 12th sign " + when, 10 * b.side(11, 0, false) + b.side(11, 1, true), 12);
        for (int sign = 0; sign < 12; sign++) {
            Check.due("sides of sign " + sign + " " + when, 10 * b.side(sign, 4, true) + b.side(sign, 4, false), sign);
        }
        for (int letter = 0; letter < 14; letter++) {
            Check.due("letter " + letter + " " + when, b.letter(letter, 0), letter < 12 ? letter : letter == 12 ? 0 : 11);
        }
        Check.due("squeeze of the 14th letter " + when, b.letter(13, 1), 3);
        Check.due("day of the 14th letter " + when, b.letter(13, 4), 14);
        Check.due("days " + when, b.count(11), 15);
        Check.due("slip of the last row " + when, Math.abs(b.log(0, 3)), 1);
        Check.due("writer of the first row " + when, b.log(13, 2), 5);
        Check.due("lookers " + when, b.count(8), 8);
        Check.due("law " + when, b.fades(60, 9), 66);
        Check.due("the last line of the law " + when, b.row(9, 4, true), 9);
        Check.whites(b, 1006, 1007);
        Check.due("the 6th writer's white " + when, b.likely(5), 1);
        Check.due("the 6th writer's slip " + when, b.trial(5, 1, false), b.uneven());
    }

    private static void fullBoard() {
        SignBoard b = full();
        int last = b.gap(12, 0);
        fullIsThere(b, "at first");
        b.image();
        b.shift(12, 5);
        b.squeezed(13, 0);
        b.paint(5);
        b.undo();
        b.undo();
        b.undo();
        Check.due("the last distance undone", b.gap(12, 0), last);
        fullIsThere(b, "undone");
        b.shift(12, 4);
        b.squeezed(13, 1);
        Check.law(b, "weigh 1");
        Check.shop(b, "word 5 5;board 10 margin 1;cap 5;colour 5");
        b.paint(0);
        b.back();
        Check.due("the last distance gone back to", b.gap(12, 0), last);
        fullIsThere(b, "gone back to");
        Check.shop(b, "cap 98");
        Check.due("the last distance behind a text", b.gap(12, 0), last);
        fullIsThere(b, "behind a text");
        int uneven = b.uneven();
        Check.due("it is uneven, but below 200", uneven > 6 && uneven < 200, true);
        Check.due("lookers that see it as even", b.lookers(false), 1);
        Check.shop(b, "word 11 11");
        b.seed(1);
        b.paint(5);
        Check.due("the 6th writer always slips", b.slips(NONE) > 0 && b.log(0, 3) != 0, true);
    }

    // ---- promises 49, 50

    private static void imageOfNone() {
        for (Twins.Maker maker : new Twins.Maker[] {SignBoard::new, EdgesOfStateTest::board, Twins::empty}) {
            Twins.leaves("back without an image", 0, maker, b -> b.back() ? 1 : 0);
        }
        SignBoard acts = board();
        acts.shift(0, 9);
        Check.due("back without an image", acts.back(), false);
        Check.due("acts are not forgotten", acts.count(15), 1);
        SignBoard b = new SignBoard();
        b.image();
        Check.shop(b, BAR + ";word 0 0;cap 5;board 10 margin 0;colour 1;looker 1;writer white 1 slip 1");
        Check.law(b, "fade 5");
        b.paint(0);
        b.seed(7);
        Check.due("back to nothing", b.back(), true);
        int[] counts = {0, 0, 60, 2, 12, 0, 50, 0, 0, 0, NONE, 0, 2, 0, 0, 0};
        for (int what = 0; what < counts.length; what++) {
            Check.due("count(" + what + ") of nothing", b.count(what), counts[what]);
        }
        Check.due("the seed", b.seed(0), 1);
        Check.due("no law", b.fades(1, 0), 0);
        Check.due("fault() stays", b.fault(), NONE);
    }

    /** Whatever comes behind the image, going back leaves all as an image of now would: but for the acts. */
    private static void imageOfAll() {
        Act[] more = {b -> Check.shop(b, "sign slant wide 3 left 00000 right 00000;word 2 2 2 2"), b -> Check.shop(b, "cap 1"),
            b -> Check.shop(b, "board 99 margin 9;colour 1;looker 7;writer white 1 slip 1"), b -> Check.law(b, "weigh 3;fade 5"),
            b -> b.shadow(5), b -> b.shift(1, 9), b -> b.squeezed(0, 1), b -> b.paint(0), EdgesOfStateTest::laysWhereItCan,
            b -> b.seed(77),
            b -> {
                b.paint(0);
                b.paint(1);
                b.undo();
            }};
        for (Act one : more) {
            for (Act other : more) {
                Twins.leaves("back", 1, EdgesOfStateTest::imaged, b -> {
                    one.on(b);
                    other.on(b);
                    boolean back = b.back();
                    taped(b);
                    return back ? 1 : 0;
                });
            }
        }
    }

    private static void laysWhereItCan(SignBoard b) {
        if (b.laid(39, NONE) != NONE) {
            b.lays(39);
        }
    }

    private static SignBoard imaged() {
        SignBoard b = board();
        b.paint(0);
        b.shift(0, 5);
        Check.law(b, "weigh 2;fade 1");
        b.image();
        return taped(b);
    }

    private static void oneImage() {
        SignBoard b = board();
        b.shift(0, 1);
        b.image();
        b.shift(0, 2);
        b.image();
        b.shift(0, 4);
        Check.due("back", b.back(), true);
        Check.due("to the latest", b.gap(0, 0), 2);
        b.shift(0, 5);
        Check.due("back again", b.back(), true);
        Check.due("the image stays", b.gap(0, 0), 2);
        Check.due("and again", b.back(), true);
        Check.due("the image stays", b.gap(0, 0), 2);
    }

    private static void imageLeavesTheActs() {
        Twins.leaves("an image of what is kept", 0, EdgesOfStateTest::imaged, b -> {
            b.image();
            return 0;
        });
        SignBoard b = board();
        b.shift(0, 9);
        b.image();
        Check.due("an image is no act", b.count(15), 1);
        Check.due("undo behind it", b.undo(), true);
        Check.due("undone", b.gap(0, 0), 3);
        b.back();
        Check.due("the image is of then", b.gap(0, 0), 9);
    }

    private static void backForgets() {
        SignBoard b = board();
        b.shift(0, 9);
        b.image();
        b.shift(0, 8);
        Check.due("acts", b.count(15), 2);
        b.back();
        Check.due("going back, none are remembered", b.count(15), 0);
        Check.due("undo", b.undo(), false);
        Check.due("it stays", b.gap(0, 0), 9);
        b.shift(0, 7);
        Check.due("undo of the next", b.undo(), true);
        Check.due("undone", b.gap(0, 0), 9);
    }

    private static void backToFewerTexts() {
        SignBoard b = new SignBoard();
        for (int text = 1; text <= 11; text++) {
            Check.shop(b, "cap " + text);
        }
        b.image();
        Check.shop(b, "cap 12");
        Check.tape(b, "cap 13");
        Check.dueThrow("a 13th text", Twins.UNSUPPORTED, b::shop);
        b.back();
        Check.due("texts of the image", b.count(9), 11);
        Check.due("cap of the image", b.count(4), 11);
        Check.tape(b, "cap 14");
        Check.due("a 12th text again", b.shop(), 12);
        Check.tape(b, "cap 15");
        Check.dueThrow("a 13th text again", Twins.UNSUPPORTED, b::shop);
        Check.due("cap", b.count(4), 14);
    }

    // ---- promise 51

    private static void counts() {
        SignBoard b = board();
        int[] none = {-1, 16, 17, Integer.MIN_VALUE, Integer.MAX_VALUE};
        for (int what : none) {
            Check.due("count(" + what + ")", b.count(what), NONE);
        }
        Check.due("no law", b.count(10), NONE);
        Check.law(b, "");
        Check.due("a law of no line", b.count(10), 0);
        b.image();
        Check.law(b, "fade 1;fade 1");
        Check.due("a law of two", b.count(10), 2);
        b.back();
        Check.due("back to the law of no line", b.count(10), 0);
        Check.due("the first hair behind", b.count(12), 2 + 2 + 3 + 5 + 3 + 2);
        b.shadow(9);
        Check.due("the shadow is not in it", b.count(12), 17);
        Check.due("the shadow", b.count(5), 9);
        Check.due("bits of the painted: none", b.count(13), 0);
        b.paint(1);
        b.paint(1);
        Check.due("bits of the painted: first and third", b.count(13), 5);
        Check.due("NONE", NONE, -1);
    }
}
