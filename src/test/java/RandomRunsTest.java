import java.nio.charset.StandardCharsets;
import java.util.Random;

/** Runs of calls by draws, on the program and on the model: both must answer, and throw, alike. */
public final class RandomRunsTest {
    private static final int RUNS = 200;
    private static final int CALLS = 400;

    private final Random random;
    private final SignBoard board = new SignBoard();
    private final Model model = new Model();
    private final StringBuilder story = new StringBuilder();
    private boolean differs = false;

    private RandomRunsTest(long seed) {
        random = new Random(seed);
    }

    public static void main(String[] args) {
        int wrong = 0;
        for (int run = 0; run < RUNS && wrong < 3; run++) {
            RandomRunsTest test = new RandomRunsTest(run);
            if (!test.isAlike()) {
                wrong++;
                System.out.println("run " + run + " differs:\n" + test.story);
            }
        }
        Check.due("runs that differ", wrong, 0);
        Check.finish();
    }

    private boolean isAlike() {
        if (upTo(10) > 0) {
            tell(shopText(true), true);
        }
        for (int call = 0; call < CALLS && !differs; call++) {
            oneCall();
        }
        return !differs;
    }

    private int upTo(int below) {
        return random.nextInt(below);
    }

    private boolean coin() {
        return random.nextBoolean();
    }

    /** Mostly a number from least to most, at times one beside the bounds or far off. */
    private int about(int least, int most) {
        switch (upTo(40)) {
            case 0:
                return least - 1;
            case 1:
                return most + 1;
            case 2:
                return least;
            case 3:
                return most;
            case 4:
                return coin() ? Integer.MIN_VALUE : Integer.MAX_VALUE;
            default:
                return most < least ? least : least + upTo(most - least + 1);
        }
    }

    private String answer(Check.Call call) {
        try {
            return String.valueOf(call.answer());
        } catch (RuntimeException e) {
            return e.getClass().getName();
        }
    }

    private void both(String what, Check.Call one, Check.Call other) {
        String got = answer(one);
        String want = answer(other);
        if (!differs) {
            story.append(what).append(" = ").append(got).append('\n');
        }
        if (!got.equals(want)) {
            differs = true;
            story.append("  due is ").append(want).append('\n');
        }
    }

    private void tapes(byte[] bytes) {
        both("end(0)", () -> board.end(0) ? 1 : 0, () -> model.end(0) ? 1 : 0);
        for (int at = 0; at < bytes.length; at += 20) {
            int[] n = new int[5];
            for (int i = 0; i < 20; i++) {
                n[i / 4] = n[i / 4] << 8 | (at + i < bytes.length ? bytes[at + i] & 255 : 0);
            }
            both("feed", () -> board.feed(n[0], n[1], n[2], n[3], n[4]), () -> model.feed(n[0], n[1], n[2], n[3], n[4]));
        }
        both("end", () -> board.end(bytes.length) ? 1 : 0, () -> model.end(bytes.length) ? 1 : 0);
    }

    private void tell(String text, boolean shop) {
        tapes(text.getBytes(StandardCharsets.ISO_8859_1));
        if (shop) {
            both("shop() of '" + text + "'", board::shop, model::shop);
        } else {
            both("law() of '" + text + "'", board::law, model::law);
        }
        both("fault()", board::fault, model::fault);
    }

    // ---- texts by draws

    private String shopText(boolean whole) {
        StringBuilder text = new StringBuilder();
        if (whole) {
            int signs = 1 + upTo(4);
            for (int i = 0; i < signs; i++) {
                text.append(signLine()).append(';');
            }
            text.append(coin() ? "board " + (30 + upTo(91)) + " margin " + upTo(10) + ";" : "");
            text.append("word");
            for (int i = 1 + upTo(coin() ? 4 : 14); i > 0; i--) {
                text.append(' ').append(upTo(signs));
            }
            text.append(";writer white ").append(upTo(100)).append(" slip ").append(upTo(101));
            text.append(";looker ").append(upTo(60));
            return text.toString();
        }
        int lines = upTo(20) == 0 ? 13 + upTo(4) : upTo(4);
        for (int i = 0; i < lines; i++) {
            text.append(i > 0 ? ";" : "").append(blanks()).append(shopLine(lines > 10)).append(blanks());
        }
        return spoilt(text.toString());
    }

    private String blanks() {
        return upTo(8) == 0 ? " ".repeat(upTo(3)) : "";
    }

    private String signLine() {
        int width = 2 + upTo(coin() ? 4 : 11);
        StringBuilder left = new StringBuilder();
        StringBuilder right = new StringBuilder();
        for (int row = 0; row < 5; row++) {
            int one = upTo(Math.min(10, width));
            left.append(one);
            right.append(upTo(Math.min(10, width - one)));
        }
        String[] sorts = {"straight", "round", "slant", "open"};
        return "sign " + sorts[upTo(4)] + " wide " + width + " left " + left + " right " + right;
    }

    private String shopLine(boolean small) {
        switch (small ? 2 + upTo(3) : upTo(8)) {
            case 0:
                return signLine();
            case 1:
                return "board " + about(10, 120) + " margin " + about(0, 9);
            case 2:
                return "cap " + about(1, 99);
            case 3:
                return "looker " + about(0, 200);
            case 4:
                return "colour " + about(1, 99);
            case 5:
                return "writer white " + about(0, 999) + " slip " + about(0, 100);
            default:
                return wordLine();
        }
    }

    private String wordLine() {
        StringBuilder word = new StringBuilder("word");
        int signs = Math.max(1, board.count(0));
        int letters = upTo(10) == 0 ? upTo(17) : 1 + upTo(7);
        for (int i = 0; i < letters; i++) {
            word.append(' ').append(upTo(60) == 0 ? signs : upTo(signs));
        }
        return word.toString();
    }

    /** Mostly a white that the gaps can have, as they stand or a few hairs wider. */
    private int someWhite() {
        if (board.count(1) < 2 || upTo(4) == 0) {
            return about(0, coin() ? 300 : 2000);
        }
        return Math.min(2000, board.gap(0, 1) + upTo(30));
    }

    private String lawText() {
        StringBuilder text = new StringBuilder();
        int lines = upTo(20) == 0 ? 11 + upTo(4) : upTo(5);
        for (int i = 0; i < lines && text.length() < 330; i++) {
            text.append(i > 0 ? ";" : "").append(blanks());
            text.append(coin() ? "weigh " + upTo(10) : "fade " + upTo(100));
            if (lines < 10 && upTo(4) > 0) {
                text.append(" if ").append(condition(0));
            }
            text.append(blanks());
        }
        return spoilt(text.toString());
    }

    private String condition(int depth) {
        StringBuilder text = new StringBuilder(atom(depth));
        for (int i = upTo(5); i > 3; i--) {
            text.append(coin() ? " and " : " or ").append(atom(depth));
        }
        if (upTo(3) == 0) {
            text.append(coin() ? " and " : " or ").append(atom(depth));
        }
        return text.toString();
    }

    private String atom(int depth) {
        int kind = upTo(depth > 7 ? 6 : 9);
        if (kind < 3) {
            return new String[] {"round", "slant", "open"}[kind];
        }
        if (kind < 6) {
            return sum() + (coin() ? "<" : " > ") + sum();
        }
        return kind < 8 ? "not " + atom(depth + 1) : "(" + condition(depth + 1) + ")";
    }

    private String sum() {
        String[] names = {"row", "gap", "left", "right", "light", "yards"};
        StringBuilder text = new StringBuilder();
        do {
            text.append(text.length() > 0 ? "+" : "");
            text.append(coin() ? names[upTo(6)] : String.valueOf(upTo(upTo(4) == 0 ? 70 : 6)));
        } while (upTo(3) == 0);
        return text.toString();
    }

    /** At times a byte too many, too few, another one, or the end cut off. */
    private String spoilt(String text) {
        StringBuilder spoilt = new StringBuilder(text);
        if (spoilt.length() > 0 && upTo(4) == 0) {
            int at = upTo(spoilt.length());
            String bytes = "a0 ;()<>+z9\u00ff\u0000\n1";
            char sign = bytes.charAt(upTo(bytes.length()));
            switch (upTo(5)) {
                case 0:
                    spoilt.setLength(at);
                    break;
                case 1:
                    spoilt.deleteCharAt(at);
                    break;
                case 2:
                    spoilt.insert(at, sign);
                    break;
                case 3:
                    spoilt.insert(at, ' ');
                    break;
                default:
                    spoilt.setCharAt(at, sign);
                    break;
            }
        }
        if (spoilt.length() > 400) {
            spoilt.setLength(400);
        }
        return spoilt.toString();
    }

    // ---- calls by draws

    private void oneCall() {
        int gap = about(0, Math.max(0, board.count(1) - 2));
        int letter = about(0, Math.max(0, board.count(1) - 1));
        int writer = about(0, Math.max(0, board.count(7) - 1));
        boolean flag = coin();
        switch (upTo(6)) {
            case 0:
                act(gap, letter, writer);
                break;
            case 1:
                askThings(gap, letter, flag);
                break;
            case 2:
                askWhites(gap, flag);
                break;
            case 3:
                askLooks(flag);
                break;
            case 4:
                askPainting(writer, flag);
                break;
            default:
                if (upTo(3) == 0) {
                    texts();
                } else {
                    act(gap, letter, writer);
                }
                break;
        }
    }

    private void texts() {
        switch (upTo(16)) {
            case 0:
            case 1:
                tell(shopText(upTo(6) == 0), true);
                break;
            case 2:
            case 3:
            case 4:
                tell(lawText(), false);
                break;
            case 5:
                both("image()", () -> {
                    board.image();
                    return 0;
                }, () -> {
                    model.image();
                    return 0;
                });
                break;
            case 6:
                both("back()", () -> board.back() ? 1 : 0, () -> model.back() ? 1 : 0);
                break;
            case 7:
                int seed = random.nextInt();
                both("seed", () -> board.seed(seed), () -> model.seed(seed));
                break;
            case 8:
                int n = about(0, 40);
                both("end " + n, () -> board.end(n) ? 1 : 0, () -> model.end(n) ? 1 : 0);
                break;
            case 9:
                tell("fade " + upTo(60) + " if light > " + upTo(10) + ";fade " + upTo(60) + " if light<"
                        + upTo(10) + ";weigh " + upTo(4) + " if yards + light < 1 and row < " + upTo(6)
                        + "; weigh 1", false);
                break;
            case 10:
            case 11:
                tell(shopLine(false), true);
                break;
            default:
                tell(wordLine(), true);
                break;
        }
    }

    private void act(int gap, int letter, int writer) {
        int n = about(0, 30);
        int few = about(0, 3);
        int white = someWhite();
        switch (upTo(7)) {
            case 0:
                both("shift " + gap + " " + n, () -> board.shift(gap, n), () -> model.shift(gap, n));
                break;
            case 1:
                both("squeezed " + letter + " " + few, () -> board.squeezed(letter, few), () -> model.squeezed(letter, few));
                break;
            case 2:
                int shadow = upTo(3) > 0 ? few : about(0, 9);
                both("shadow " + shadow, () -> board.shadow(shadow), () -> model.shadow(shadow));
                break;
            case 3:
                both("lays " + white, () -> board.lays(white), () -> model.lays(white));
                break;
            case 4:
                both("undo()", () -> board.undo() ? 1 : 0, () -> model.undo() ? 1 : 0);
                break;
            default:
                both("paint " + writer, () -> board.paint(writer), () -> model.paint(writer));
                break;
        }
    }

    private void askThings(int gap, int letter, boolean flag) {
        int what = about(0, 4);
        int sign = about(0, Math.max(0, board.count(0) - 1));
        int k = about(0, 15);
        switch (upTo(6)) {
            case 0:
                both("sign " + sign + " " + what, () -> board.sign(sign, what), () -> model.sign(sign, what));
                break;
            case 1:
                both("side " + sign + " " + what, () -> board.side(sign, what, flag), () -> model.side(sign, what, flag));
                break;
            case 2:
                both("letter " + letter + " " + what, () -> board.letter(letter, what), () -> model.letter(letter, what));
                break;
            case 3:
                both("gap " + gap + " " + what, () -> board.gap(gap, what), () -> model.gap(gap, what));
                break;
            case 4:
                both("row " + gap + " " + what, () -> board.row(gap, what, flag), () -> model.row(gap, what, flag));
                break;
            default:
                both("count " + k, () -> board.count(k), () -> model.count(k));
                break;
        }
    }

    private void askWhites(int gap, boolean flag) {
        int white = someWhite();
        int k = coin() ? -1 : about(0, 6);
        switch (upTo(20)) {
            case 0:
                if (upTo(3) == 0) {
                    both("best " + flag, () -> board.best(flag), () -> model.best(flag));
                }
                break;
            case 1:
            case 2:
                both("laid " + white + " " + k, () -> board.laid(white, k), () -> model.laid(white, k));
                break;
            case 3:
                both("inch " + white, () -> board.inch(white), () -> model.inch(white));
                break;
            case 4:
            case 5:
                both("nearest " + gap + " " + white, () -> board.nearest(gap, white), () -> model.nearest(gap, white));
                break;
            case 6:
            case 7:
                both("cannot " + white, () -> board.cannot(white), () -> model.cannot(white));
                break;
            case 8:
            case 9:
                both("lacks " + white, () -> board.lacks(white), () -> model.lacks(white));
                break;
            case 10:
            case 11:
            case 12:
                both("squeeze " + white + " " + flag, () -> board.squeeze(white, flag), () -> model.squeeze(white, flag));
                break;
            case 13:
            case 14:
                both("dropped " + white, () -> board.dropped(white), () -> model.dropped(white));
                break;
            case 15:
            case 16:
                both("off " + white, () -> board.off(white), () -> model.off(white));
                break;
            default:
                both("uneven()", board::uneven, model::uneven);
                break;
        }
    }

    private void askLooks(boolean flag) {
        int yards = about(1, 60);
        int light = about(0, 9);
        int d = about(0, 30);
        switch (upTo(11)) {
            case 0:
                both("fits()", () -> board.fits() ? 1 : 0, () -> model.fits() ? 1 : 0);
                break;
            case 1:
                both("middle " + flag, () -> board.middle(flag), () -> model.middle(flag));
                break;
            case 2:
                both("read " + yards + " " + light, () -> board.read(yards, light) ? 1 : 0,
                        () -> model.read(yards, light) ? 1 : 0);
                break;
            case 3:
                both("far " + light, () -> board.far(light), () -> model.far(light));
                break;
            case 4:
                both("runs " + yards + " " + light, () -> board.runs(yards, light), () -> model.runs(yards, light));
                break;
            case 5:
                both("bears " + yards + " " + light, () -> board.bears(yards, light), () -> model.bears(yards, light));
                break;
            case 6:
                both("lamp()", board::lamp, model::lamp);
                break;
            case 7:
                both("aslant " + light, () -> board.aslant(light), () -> model.aslant(light));
                break;
            case 8:
                both("from()", board::from, model::from);
                break;
            case 9:
                both("ends " + d, () -> board.ends(d), () -> model.ends(d));
                break;
            default:
                both("fades " + yards + " " + light, () -> board.fades(yards, light), () -> model.fades(yards, light));
                break;
        }
    }

    private void askPainting(int writer, boolean flag) {
        int n = about(0, 40);
        int k = coin() ? -1 : about(0, 6);
        int what = about(0, 3);
        switch (upTo(10)) {
            case 0:
                both("order " + k, () -> board.order(k), () -> model.order(k));
                break;
            case 1:
                both("brush()", board::brush, model::brush);
                break;
            case 2:
                tapesWhites();
                both("wrote()", board::wrote, model::wrote);
                break;
            case 3:
                tapesWhites();
                both("likely " + writer, () -> board.likely(writer), () -> model.likely(writer));
                break;
            case 4:
                both("lookers " + flag, () -> board.lookers(flag), () -> model.lookers(flag));
                break;
            case 5:
                both("trial " + writer + " " + n, () -> board.trial(writer, n, flag), () -> model.trial(writer, n, flag));
                break;
            case 6:
                both("span " + writer + " " + n, () -> board.span(writer, n, flag), () -> model.span(writer, n, flag));
                break;
            case 7:
                int who = coin() ? -1 : writer;
                both("slips " + who, () -> board.slips(who), () -> model.slips(who));
                break;
            default:
                int ago = upTo(4) == 0 ? about(0, 60) : upTo(4);
                both("log " + ago + " " + what, () -> board.log(ago, what), () -> model.log(ago, what));
                break;
        }
    }

    private void tapesWhites() {
        byte[] bytes = new byte[upTo(5) == 0 ? upTo(20) : 2 * upTo(8)];
        for (int i = 0; i < bytes.length; i++) {
            bytes[i] = (byte) (i % 2 == 0 ? upTo(6) == 0 ? upTo(256) : upTo(2) : upTo(100));
        }
        tapes(bytes);
    }
}
