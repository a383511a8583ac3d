import java.util.ArrayList;
import java.util.List;
import java.util.NoSuchElementException;

/**
 * Boards made by the same calls: one of them is asked something besides, and then all that can be seen of both must be
 * alike. Each view looks at two new boards, so that none is called more than 512 times.
 */
final class Twins {
    interface Maker {
        SignBoard board();
    }

    interface Asked {
        long of(SignBoard board);
    }

    private interface View {
        void see(SignBoard board, List<String> seen);
    }

    static final Class<? extends RuntimeException> INDEX = IndexOutOfBoundsException.class;
    static final Class<? extends RuntimeException> ARGUMENT = IllegalArgumentException.class;
    static final Class<? extends RuntimeException> ELEMENT = NoSuchElementException.class;
    static final Class<? extends RuntimeException> STATE = IllegalStateException.class;
    static final Class<? extends RuntimeException> UNSUPPORTED = UnsupportedOperationException.class;

    private static final String SIGNS = "sign straight wide 4 left 00000 right 00000;"
            + "sign slant wide 6 left 21100 right 21100;sign open wide 4 left 00000 right 33333;"
            + "sign round wide 5 left 10001 right 10001";

    private Twins() {
    }

    // ---- boards

    /** Of all there is something: an image, a law, acts, rows of the log, a fault, and "cap 7" on the tape. */
    static SignBoard rich() {
        SignBoard b = Check.board(SIGNS, "board 40 margin 2;word 0 1 2 0;writer white 19 slip 100;writer white 40 slip 0",
                "looker 5;looker 12;cap 11;colour 20");
        b.shift(2, 4);
        b.image();
        Check.law(b, "weigh 1;weigh 2 if row > 3;fade 3 if light < 4;fade 1 if yards > 30");
        b.seed(77);
        b.shift(0, 5);
        b.squeezed(1, 2);
        b.shadow(1);
        b.paint(0);
        b.paint(1);
        leaveFault(b);
        Check.tape(b, "cap 7");
        return b;
    }

    static SignBoard empty() {
        SignBoard b = new SignBoard();
        leaveFault(b);
        Check.tape(b, "cap 7");
        return b;
    }

    /** As rich, with as many texts as there can be. */
    static SignBoard allTold() {
        SignBoard b = rich();
        while (b.count(9) < 12) {
            Check.shop(b, "cap 11");
        }
        b.shift(1, 7);
        leaveFault(b);
        Check.tape(b, "cap 7");
        return b;
    }

    /** A text that is wrong at byte 4. */
    static void leaveFault(SignBoard b) {
        Check.tape(b, "cap 0");
        try {
            b.shop();
        } catch (IllegalArgumentException e) {
            return;
        }
        Check.due("'cap 0' throws", 0, 1);
    }

    // ---- what is held against what

    /** It throws, and nothing at all has changed. */
    static void refuses(String what, Class<? extends RuntimeException> want, Maker maker, Asked call) {
        Asked thrown = board -> {
            Check.dueThrow(what, want, () -> call.of(board));
            return 0;
        };
        alike(what, maker, thrown, Twins::tape, Twins::fault);
    }

    /** It throws, the tape is used up, and nothing else has changed. */
    static void refusesTape(String what, Class<? extends RuntimeException> want, Maker maker, Asked call) {
        Asked thrown = board -> {
            Check.dueThrow(what, want, () -> call.of(board));
            Check.due(what + " uses the tape up", board.end(1), false);
            return 0;
        };
        alike(what, maker, thrown, Twins::fault);
    }

    /** It throws, the tape is used up, fault() tells the text's first wrong byte, and nothing else has changed. */
    static void refusesText(String what, Class<? extends RuntimeException> want, int fault, Maker maker, Asked call) {
        Asked thrown = board -> {
            Check.dueThrow(what, want, () -> call.of(board));
            Check.due(what + ": fault()", board.fault(), fault);
            Check.due(what + " uses the tape up", board.end(1), false);
            return 0;
        };
        alike(what, maker, thrown);
    }

    /** It answers what is due, and nothing at all has changed. */
    static void leaves(String what, long want, Maker maker, Asked call) {
        Asked asked = board -> {
            Check.due(what, call.of(board), want);
            return 0;
        };
        alike(what, maker, asked, Twins::tape, Twins::fault);
    }

    /** Whatever it answers, it answers, and nothing at all has changed. */
    static void leaves(String what, Maker maker, Asked call) {
        leaves(what, call.of(maker.board()), maker, call);
    }

    /** It answers what is due, the tape is used up, and nothing else has changed. */
    static void leavesButTape(String what, long want, Maker maker, Asked call) {
        Asked asked = board -> {
            Check.due(what, call.of(board), want);
            Check.due(what + " uses the tape up", board.end(1), false);
            return 0;
        };
        alike(what, maker, asked, Twins::fault);
    }

    private static void alike(String what, Maker maker, Asked call, View... more) {
        List<View> views = new ArrayList<>(List.of(Twins::counts, Twins::signs, Twins::letters, Twins::gaps, Twins::rows,
                Twins::rest, Twins::acts, Twins::image));
        views.addAll(List.of(more));
        for (int i = 0; i < views.size(); i++) {
            SignBoard asked = maker.board();
            call.of(asked);
            List<String> got = new ArrayList<>();
            views.get(i).see(asked, got);
            List<String> want = new ArrayList<>();
            views.get(i).see(maker.board(), want);
            Check.due("alike behind " + what + firstDifference(got, want), got.equals(want), true);
        }
    }

    private static String firstDifference(List<String> got, List<String> want) {
        for (int k = 0; k < want.size() || k < got.size(); k++) {
            String one = k < got.size() ? got.get(k) : "nothing";
            String other = k < want.size() ? want.get(k) : "nothing";
            if (!one.equals(other)) {
                return " (" + one + ", without it " + other + ")";
            }
        }
        return "";
    }

    // ---- views

    private static void counts(SignBoard b, List<String> seen) {
        for (int what = 0; what < 16; what++) {
            seen.add("count " + what + ": " + b.count(what));
        }
    }

    private static void signs(SignBoard b, List<String> seen) {
        for (int sign = 0; sign < b.count(0); sign++) {
            seen.add("sign " + sign + ": " + b.sign(sign, 0) + " " + b.sign(sign, 1));
            for (int row = 0; row < 5; row++) {
                seen.add("sides of " + sign + " " + row + ": " + b.side(sign, row, false) + " " + b.side(sign, row, true));
            }
        }
    }

    private static void letters(SignBoard b, List<String> seen) {
        for (int letter = 0; letter < b.count(1); letter++) {
            for (int what = 0; what < 5; what++) {
                seen.add("letter " + letter + " " + what + ": " + b.letter(letter, what));
            }
        }
    }

    private static void gaps(SignBoard b, List<String> seen) {
        for (int gap = 0; gap + 1 < b.count(1); gap++) {
            for (int what = 0; what < 3; what++) {
                seen.add("gap " + gap + " " + what + ": " + b.gap(gap, what));
            }
            seen.add("nearest " + gap + ": " + b.nearest(gap, 40));
        }
        seen.add("laid: " + b.laid(30, SignBoard.NONE));
        seen.add("uneven: " + b.uneven());
    }

    private static void rows(SignBoard b, List<String> seen) {
        for (int gap = 0; gap + 1 < b.count(1); gap++) {
            for (int row = 0; row < 5; row++) {
                seen.add("row " + gap + " " + row + ": " + b.row(gap, row, false) + " " + b.row(gap, row, true));
            }
        }
    }

    private static void rest(SignBoard b, List<String> seen) {
        for (int light = 0; light < 10; light++) {
            for (int yards : new int[] {1, 2, 30, 31, 60}) {
                seen.add("fades " + yards + " " + light + ": " + b.fades(yards, light));
            }
        }
        for (int ago = 0; ago < Math.min(5, b.count(14)); ago++) {
            for (int what = 0; what < 4; what++) {
                seen.add("log " + ago + " " + what + ": " + b.log(ago, what));
            }
        }
        for (int writer = SignBoard.NONE; writer < b.count(7); writer++) {
            seen.add("slips " + writer + ": " + b.slips(writer));
        }
        for (int k = SignBoard.NONE; k < 5; k++) {
            seen.add("order " + k + ": " + b.order(k));
        }
        seen.add("brush: " + b.brush());
        seen.add("lookers: " + b.lookers(false) + " " + b.lookers(true));
        seen.add("wrote: " + (b.end(0) ? b.wrote() : 99));
        seen.add("seed: " + b.seed(0));
    }

    /** What each act that can be undone brings back. */
    private static void acts(SignBoard b, List<String> seen) {
        boolean more = true;
        for (int act = 0; act < 14 && more; act++) {
            StringBuilder all = new StringBuilder("before " + act + " acts:");
            for (int what : new int[] {1, 4, 5, 10, 11, 12, 13, 14, 15}) {
                all.append(' ').append(b.count(what));
            }
            for (int gap = 0; gap + 1 < b.count(1); gap++) {
                all.append(" gap ").append(b.gap(gap, 0));
            }
            int seed = b.seed(0);
            b.seed(seed);
            seen.add(all.append(" seed ").append(seed).append(" log ").append(b.log(0, 1)).toString());
            more = b.undo();
        }
        seen.add("more acts: " + more);
    }

    private static void image(SignBoard b, List<String> seen) {
        seen.add("back: " + b.back());
        counts(b, seen);
        letters(b, seen);
        seen.add("seed: " + b.seed(0));
    }

    private static void fault(SignBoard b, List<String> seen) {
        seen.add("fault: " + b.fault());
    }

    /** How long the tape is, and what it tells as a text and as whites. */
    private static void tape(SignBoard b, List<String> seen) {
        int length = 400;
        int fed = b.feed(0x3b3f3f3f, 0, 0, 0, 0);
        if (fed != SignBoard.NONE) {
            length = fed - 20;
        } else {
            while (length > 380 && !b.end(length)) {
                length--;
            }
        }
        seen.add("length of the tape: " + length + ", " + b.end(length));
        String read;
        try {
            read = "read " + b.shop();
        } catch (IllegalArgumentException e) {
            read = "wrong";
        } catch (UnsupportedOperationException e) {
            read = "refused";
        }
        seen.add("the tape is " + read + " " + b.fault() + ", cap " + b.count(4));
    }
}
