/**
 * The edges of what is measured (promises 7 to 12, 18 to 36, 41, 42): each bound of "Terms" where it counts, just there
 * and one beside it. A bar is a sign 2 hairs wide without any white, so between bars a distance is the space.
 */
public final class EdgesOfLooksTest {
    private static final int NONE = SignBoard.NONE;
    private static final String BAR = "sign straight wide 2 left 00000 right 00000";

    public static void main(String[] args) {
        inks();
        spaceAndCap();
        spaceAndShadow();
        leastSpaceOfEachRow();
        placing();
        fitting();
        fittingWithoutLetters();
        fewGaps();
        unevenWherever();
        offAboveAndBelow();
        laidAtItsEnds();
        laidOfOneLetter();
        laidIsTheFirst();
        laidBehindALongerWord();
        laysAtItsEnds();
        laysAllDistances();
        bestAtItsEnds();
        bestOfAll();
        nearestAtItsEnds();
        cannotAtItsEnds();
        lackingAtItsEnds();
        lackingIsTheLeastDistance();
        squeezeAtItsEnds();
        squeezeByWidth();
        squeezeOfAll();
        squeezeIsTheFirst();
        droppedAtItsEnds();
        middleAtItsEnds();
        middleOfEachRow();
        middleOfSqueezed();
        middleFarOff();
        readAtItsEnds();
        readWithoutGaps();
        farAtItsEnds();
        runsWherever();
        bearsAtItsEnds();
        lampAtItsEnds();
        aslantAtItsEnds();
        fromAtItsEnds();
        endsAtTheirEnds();
        lookersAtTheirEnds();
        twosAtTheirEnds();
        inchAtItsEnds();
        Check.finish();
    }

    private static SignBoard bars(int letters, String more) {
        return Check.board(BAR + ";word" + " 0".repeat(letters), more);
    }

    /** Bars on a board that has just so many hairs for the distances. */
    private static SignBoard free(int letters, int hairs, String more) {
        return bars(letters, "board " + (2 * letters + hairs) + " margin 0;" + more);
    }

    // ---- promise 7

    private static void inks() {
        Check.due("ink of width 2", Check.board(BAR).sign(0, 2), 10);
        Check.due("ink of width 12", Check.board("sign open wide 12 left 00000 right 00000").sign(0, 2), 60);
        Check.due("the least ink", Check.board("sign open wide 12 left 92999 right 29222").sign(0, 2), 5);
        Check.due("the least ink of width 2", Check.board("sign open wide 2 left 10101 right 01010").sign(0, 2), 5);
    }

    // ---- promises 10, 11

    private static void spaceAndCap() {
        for (int cap : new int[] {1, 2, 12, 29, 30}) {
            SignBoard b = bars(2, "cap " + cap);
            for (int distance : new int[] {0, cap - 1, cap, Math.min(30, cap + 1), 30}) {
                b.shift(0, distance);
                int due = Math.min(cap, distance);
                Check.due("space of " + distance + " by cap " + cap, b.row(0, 0, false), due);
                Check.due("least space of " + distance + " by cap " + cap, b.gap(0, 2), due);
                Check.due("white of " + distance + " by cap " + cap, b.gap(0, 1), 5 * due);
            }
        }
        // both sides and the distance together
        String signs = "sign open wide 10 left 90000 right 00009;sign open wide 10 left 80000 right 00008;";
        for (int cap : new int[] {47, 48, 49, 99}) {
            SignBoard b = Check.board(signs + "sign open wide 10 left 00000 right 99999;word 2 0;cap " + cap);
            b.shift(0, 30);
            Check.due("the widest space by cap " + cap, b.row(0, 0, false), Math.min(cap, 48));
            Check.due("the least space by cap " + cap, b.gap(0, 2), 39);
        }
        SignBoard b = Check.board(signs + "word 0 0 1;cap 1");
        Check.due("sides above the cap", b.row(0, 4, false), 1);
        b.shift(0, 0);
        Check.due("no space in a row", b.row(0, 1, false), 0);
        Check.due("the least space is that of any row", b.gap(0, 2), 0);
        // both sides alone, with no distance, or none that the shadow leaves
        SignBoard wide = Check.board("sign open wide 10 left 90000 right 00000;sign open wide 10 left 00000 right 90000;"
                + "word 1 0;cap 17");
        for (int distance = 0; distance <= 2; distance++) {
            wide.shift(0, distance);
            for (int shadow = 0; shadow <= 2; shadow++) {
                wide.shadow(shadow);
                Check.due("sides of 18 by cap 17, " + distance + " less " + shadow, wide.row(0, 0, false), 17);
                Check.due("white of them", wide.gap(0, 1), 17 + 4 * Math.max(0, distance - shadow));
            }
        }
    }

    private static void spaceAndShadow() {
        for (int shadow : new int[] {0, 1, 8, 9}) {
            SignBoard b = Check.board("sign open wide 9 left 00003 right 00040;word 0 0;cap 99");
            b.shadow(shadow);
            for (int distance = 0; distance <= 30; distance++) {
                b.shift(0, distance);
                int due = distance < shadow ? 0 : distance - shadow;
                Check.due("space of " + distance + " by shadow " + shadow, b.row(0, 0, false), due);
                Check.due("the left side is beside it", b.row(0, 4, false), due + 3);
                Check.due("the right side is beside it", b.row(0, 3, false), due + 4);
                Check.due("white of " + distance + " by shadow " + shadow, b.gap(0, 1), 5 * due + 7);
            }
        }
    }

    private static void leastSpaceOfEachRow() {
        for (int row = 0; row < 5; row++) {
            String right = "5".repeat(row) + "2" + "5".repeat(4 - row);
            SignBoard b = Check.board("sign open wide 9 left 00000 right " + right + ";word 0 0;colour 1;cap 99");
            Check.due("the least space is in row " + row, b.gap(0, 2), 5);
            Check.due("white", b.gap(0, 1), 4 * 8 + 5);
            Check.due("far", b.far(0), 5);
            Check.due("runs", b.runs(6, 0), 1);
            Check.due("bears at 4", b.bears(4, 0), 1);
        }
    }

    // ---- promises 9, 20

    private static void placing() {
        for (int margin : new int[] {0, 1, 8, 9}) {
            SignBoard b = bars(3, "board 10 margin " + margin);
            b.shift(0, 0);
            b.shift(1, 30);
            b.squeezed(0, 1);
            Check.due("the first begins at the margin", b.letter(0, 3), margin);
            Check.due("the second just behind it", b.letter(1, 3), margin + 1);
            Check.due("the third 30 behind that", b.letter(2, 3), margin + 1 + 2 + 30);
            Check.due("the first hair behind the last", b.count(12), margin + 35);
            Check.due("without letters", Check.board("board 10 margin " + margin).count(12), margin);
        }
        SignBoard b = Check.board("sign open wide 12 left 00000 right 00000;board 120 margin 9;word" + " 0".repeat(14));
        for (int gap = 0; gap < 13; gap++) {
            b.shift(gap, 30);
        }
        Check.due("the longest word", b.count(12), 9 + 14 * 12 + 13 * 30);
        Check.due("its last letter", b.letter(13, 3), 9 + 13 * 42);
        Check.due("it does not fit", b.fits(), false);
        Check.due("nor is it laid", b.laid(5, NONE), NONE);
    }

    private static void fitting() {
        for (int distance = 6; distance <= 8; distance++) {
            SignBoard b = bars(2, "board 15 margin 2");
            b.shift(0, distance);
            Check.due("it ends at " + (6 + distance) + " of 13", b.fits(), distance < 8);
            b.shadow(1);
            Check.due("and with shadow 1", b.fits(), distance < 7);
            b.shadow(0);
            b.squeezed(1, 1);
            Check.due("and squeezed by 1", b.fits(), true);
        }
        for (int hairs = 13; hairs <= 15; hairs++) {
            Check.due("one letter on " + hairs, Check.board("sign open wide 10 left 00000 right 00000;word 0;board "
                    + hairs + " margin 2").fits(), hairs >= 14);
        }
        SignBoard b = bars(1, "board 10 margin 0");
        b.shadow(8);
        Check.due("the shadow just fits", b.fits(), true);
        b.shadow(9);
        Check.due("the shadow is one too many", b.fits(), false);
    }

    /** Without a letter the first hair behind the last one is MARGIN (count 12): by that it fits, or does not. */
    private static void fittingWithoutLetters() {
        int[][] hairsMarginMost = {{10, 0, 9}, {10, 4, 2}, {10, 5, 0}, {10, 6, -1}, {17, 9, -1}, {18, 9, 0}, {19, 9, 1}};
        for (int[] d : hairsMarginMost) {
            SignBoard b = Check.board(BAR + ";board " + d[0] + " margin " + d[1]);
            for (int shadow = 0; shadow <= 9; shadow++) {
                b.shadow(shadow);
                Check.due("no letter, " + d[0] + " hairs, margin " + d[1] + ", shadow " + shadow, b.fits(),
                        shadow <= d[2]);
            }
            Check.due("it bears, " + d[0] + " hairs, margin " + d[1], b.bears(1, 0), d[2]);
        }
    }

    // ---- promises 18, 19 and their like: with fewer than two gaps

    private static void fewGaps() {
        for (int letters = 0; letters < 3; letters++) {
            SignBoard b = letters == 0 ? Check.board(BAR) : bars(letters, "cap 99");
            String of = " of " + letters + " letters";
            if (letters == 2) {
                b.shift(0, 30);
            }
            Check.due("uneven" + of, b.uneven(), 0);
            Check.due("aslant(9)" + of, b.aslant(9), 0);
            Check.due("from" + of, b.from(), 0);
            Check.due("off(100)" + of, b.off(100), letters == 2 ? 50 : 0);
            Check.due("cannot(0)" + of, b.cannot(0), 0);
            Check.due("runs(60, 0)" + of, b.runs(60, 0), 0);
            Check.due("far(0)" + of, b.far(0), 60);
            Check.due("ends(0)" + of, b.ends(0), letters == 2 ? 52 : -999);
            Check.due("lacks(2000)" + of, b.lacks(2000), 4 + 2 * letters + (letters == 2 ? 30 : 0) - 60);
            Check.due("dropped(2000)" + of, b.dropped(2000), letters == 0 ? NONE : 0);
            Check.due("squeeze(2000)" + of, b.squeeze(2000, false), 0);
            Check.due("which" + of, b.squeeze(2000, true), 0);
            Check.due("laid(0)" + of, b.laid(0, NONE), NONE);
            Check.due("best" + of, b.best(false), NONE);
            Check.due("best, off" + of, b.best(true), NONE);
            Check.due("inch(0)" + of, b.inch(0), -9999);
            Check.due("brush" + of, b.brush(), letters == 2 ? 3 : letters);
        }
    }

    private static void unevenWherever() {
        for (int most = 0; most < 13; most++) {
            for (int least = 0; least < 13; least += 4) {
                SignBoard b = bars(14, "cap 99");
                b.shift(most, 30);
                b.shift(least, 0);
                Check.due("uneven: most " + most + ", least " + least, b.uneven(), most == least ? 15 : 150);
                b.shift(least, 3);
                Check.due("uneven: most " + most, b.uneven(), most == least ? 0 : 135);
            }
        }
        // seen straight, 30 in the last gap is 30
        SignBoard last = bars(14, "cap 99;writer white 9 slip 0;looker 135;looker 136");
        last.shift(12, 30);
        Check.due("uneven by the last", last.uneven(), 135);
        Check.due("lookers", last.lookers(false), 1);
        Check.due("trial", last.trial(0, 0, false), 135);
        Check.due("span", last.span(0, 0, true), 135);
        Check.due("from: seen as 4, then as 1", last.from(), 8);
        SignBoard b = bars(3, "");
        Check.due("uneven of two alike", b.uneven(), 0);
        b.shift(1, 4);
        Check.due("uneven by a hair", b.uneven(), 5);
    }

    private static void offAboveAndBelow() {
        SignBoard b = bars(3, "");
        b.shift(0, 2);
        Check.due("off(10)", b.off(10), 5);
        Check.due("off(15)", b.off(15), 5);
        Check.due("off(9)", b.off(9), 1 + 6);
        Check.due("off(16)", b.off(16), 6 + 1);
        Check.due("off(0)", b.off(0), 25);
        Check.due("off(2000)", b.off(2000), 4000 - 25);
    }

    // ---- promises 16, 21

    private static void laidAtItsEnds() {
        for (int letters : new int[] {2, 3, 4}) {
            int gaps = letters - 1;
            int most = 30 * gaps;
            for (int hairs : new int[] {10 - 2 * letters > 0 ? 10 - 2 * letters : 2, most - 1, most, most + 1}) {
                SignBoard b = free(letters, hairs, "cap 99");
                boolean can = hairs <= most;
                Check.due("laid of " + hairs + " for " + gaps, b.laid(0, NONE), can ? 5 * hairs : NONE);
                Check.due("the last of " + hairs, b.laid(0, gaps - 1), can ? Math.min(30, hairs) : NONE);
                Check.due("the first of " + hairs, b.laid(0, 0), can ? Math.max(0, hairs - 30 * (gaps - 1)) : NONE);
            }
        }
        SignBoard none = Check.board("sign open wide 5 left 00000 right 00000;word 0 0;board 10 margin 0");
        Check.due("laid of no hair", none.laid(7, NONE), 7);
        Check.due("its distance", none.laid(7, 0), 0);
        none.shadow(1);
        Check.due("one too few, by the shadow", none.laid(7, NONE), NONE);
        none.squeezed(0, 1);
        Check.due("squeezed by one", none.laid(7, NONE), 7);
        none.squeezed(0, 2);
        Check.due("squeezed by two", none.laid(7, 0), 1);
        Check.due("with shadow the space is 0", none.laid(7, NONE), 7);
        Check.shop(none, "board 10 margin 1");
        Check.due("one too few, by the margins", none.laid(7, NONE), NONE);
        // the longest board, and as many gaps as there can be
        SignBoard b = free(14, 92, "cap 99");
        Check.due("92 hairs for 13 gaps", b.laid(35, NONE), 5);
        int sum = 0;
        for (int k = 0; k < 13; k++) {
            sum += b.laid(35, k);
        }
        Check.due("all of them", sum, 92);
        Check.due("a 14th is none", b.laid(35, 13), NONE);
        Check.due("far below", b.laid(2000, NONE), 13 * 2000 - 460);
    }

    private static void laidOfOneLetter() {
        for (int hairs = 11; hairs <= 13; hairs++) {
            SignBoard b = Check.board("sign open wide 12 left 00000 right 00000;word 0;board " + hairs + " margin 0");
            Check.due("laid of one letter on " + hairs, b.laid(50, NONE), hairs == 12 ? 0 : NONE);
            Check.due("its distance", b.laid(50, 0), NONE);
            Check.due("best", b.best(false), hairs == 12 ? 0 : NONE);
            Check.due("best, off", b.best(true), hairs == 12 ? 0 : NONE);
            if (hairs == 12) {
                Check.due("lays", b.lays(50), 0);
            }
        }
    }

    private static void laidIsTheFirst() {
        // 2 and 3 are as far off as 3 and 2: the first the least
        SignBoard b = free(3, 5, "cap 99");
        Check.due("5 hairs for two", b.laid(12, 0), 2);
        Check.due("and the other", b.laid(12, 1), 3);
        // at 0 all ways are as far off: all in the last, 30 at most
        b = free(4, 61, "cap 99");
        int[] due = {1, 30, 30};
        for (int k = 0; k < 3; k++) {
            Check.due("61 hairs for three, " + k, b.laid(0, k), due[k]);
        }
        // above the cap more hairs are as good
        b = free(3, 40, "cap 12");
        Check.due("off by the cap", b.laid(60, NONE), 0);
        Check.due("the first has the least that is at the cap", b.laid(60, 0), 12);
        Check.due("the second the rest", b.laid(60, 1), 28);
    }

    /** What was found for more gaps does not count for fewer. */
    private static void laidBehindALongerWord() {
        for (int hairs : new int[] {35, 59, 60}) {
            SignBoard b = free(4, 61, "cap 99");
            Check.due("61 hairs for three", b.laid(0, NONE), 305);
            Check.shop(b, "word 0 0 0;board " + (6 + hairs) + " margin 0");
            Check.due(hairs + " hairs for two", b.laid(0, NONE), 5 * hairs);
            Check.due("the first of " + hairs, b.laid(0, 0), hairs - 30);
            Check.due("the second of " + hairs, b.laid(0, 1), 30);
            Check.due("lays", b.lays(0), 5 * hairs);
            Check.due("the first", b.gap(0, 0), hairs - 30);
        }
    }

    private static SignBoard wide(int letters, int width, int hairs) {
        SignBoard b = Check.board("sign open wide " + width + " left 00000 right 00000;word" + " 0".repeat(letters)
                + ";board " + hairs + " margin 0;cap 99");
        Check.tape(b, "cap 7");
        return b;
    }

    private static void laysAtItsEnds() {
        Twins.refuses("lays of a word that is too long", Twins.STATE, () -> wide(2, 6, 11), b -> b.lays(5));
        Twins.refuses("lays of a word that is too short", Twins.STATE, () -> wide(2, 6, 43), b -> b.lays(5));
        Twins.refuses("lays of one letter", Twins.STATE, () -> wide(1, 10, 11), b -> b.lays(5));
        Twins.refuses("lays of one letter", Twins.STATE, () -> wide(1, 12, 11), b -> b.lays(5));
        Twins.refuses("lays without letters", Twins.STATE, () -> Check.board("cap 5"), b -> b.lays(5));
        for (int hairs : new int[] {12, 13, 41, 42}) {
            SignBoard b = wide(2, 6, hairs);
            Check.due("lays on " + hairs, b.lays(5), Math.abs(5 * (hairs - 12) - 5));
            Check.due("the distance", b.gap(0, 0), hairs - 12);
            Check.due("it ends there", b.count(12), hairs);
            Check.due("it fits", b.fits(), true);
            Check.due("an act", b.count(15), 1);
            Check.due("the tape stays", b.end(5), true);
        }
        SignBoard b = wide(2, 6, 20);
        Check.due("lays(0)", b.lays(0), 40);
        Check.due("lays(2000)", b.lays(2000), 1960);
        Check.due("also acts that change nothing", b.count(15), 2);
    }

    private static void laysAllDistances() {
        for (int letters : new int[] {2, 3, 4, 14}) {
            for (int white : new int[] {0, 25, 60, 2000}) {
                SignBoard b = free(letters, 30, "cap 11");
                int off = b.laid(white, NONE);
                int[] distances = new int[letters - 1];
                int sum = 0;
                for (int gap = 0; gap < letters - 1; gap++) {
                    distances[gap] = b.laid(white, gap);
                    sum += distances[gap];
                }
                Check.due("30 hairs for " + letters, sum, 30);
                Check.due("lays(" + white + ") of " + letters, b.lays(white), off);
                for (int gap = 0; gap < letters - 1; gap++) {
                    Check.due("distance " + gap, b.gap(gap, 0), distances[gap]);
                }
                Check.due("off then", b.off(white), off);
            }
        }
    }

    // ---- promise 22

    private static void bestAtItsEnds() {
        int[][] due = {{12, 0, 0}, {13, 5, 0}, {35, 115, 0}, {36, 120, 0}, {37, 120, 5}, {42, 120, 30}, {43, NONE, NONE}};
        for (int[] d : due) {
            SignBoard b = wide(2, 6, d[0]);
            Check.due("best on " + d[0], b.best(false), d[1]);
            Check.due("best on " + d[0] + ", off", b.best(true), d[2]);
        }
        SignBoard b = wide(2, 6, 11);
        Check.due("best of none", b.best(false), NONE);
        Check.due("best of none, off", b.best(true), NONE);
        // whites 10 and 30 with no hair to give: from 10 to 30 all are off by 20, and 10 is the least
        b = Check.board("sign open wide 4 left 00000 right 20000;sign open wide 4 left 00000 right 33000;"
                + "word 0 1 0;board 12 margin 0");
        Check.law(b, "weigh 5");
        Check.due("best of several", b.best(false), 10);
        Check.due("best of several, off", b.best(true), 20);
        // all tried: the best may stand behind worse ones
        b = wide(2, 6, 20);
        Check.law(b, "weigh 9 if row < 1");
        Check.due("best of 72", b.best(false), 72);
        Check.law(b, "weigh 0");
        Check.due("best of no weight", b.best(false), 0);
        Check.due("best of no weight, off", b.best(true), 0);
        Check.due("best leaves the distance", b.gap(0, 0), 3);
    }

    /** Each WHITE from 0 to 120 is tried: what LAID tells of each, and of several the least. */
    private static void bestOfAll() {
        String signs = "sign straight wide 4 left 00000 right 00000;sign slant wide 6 left 21100 right 21100;"
                + "sign open wide 4 left 00000 right 33333;sign round wide 5 left 10001 right 10001";
        String[] words = {"0 1 2 0", "2 2 1", "3 1 3 1 3", "2 2 2 2 2 2 2", "1 3"};
        String[] laws = {"weigh 1", "weigh 1;weigh 2 if row > 2", "weigh 3 if gap > 4;weigh 1", "weigh 4 if left + right > 2",
            "weigh 1;weigh 5 if gap < 4 and not round", "weigh 9 if gap > 7;weigh 1 if gap < 3",
            "weigh 4 if gap > 2 and gap < 6"};
        for (int word = 0; word < words.length; word++) {
            for (String law : laws) {
                for (int hairs = 26; hairs <= 50; hairs += 4) {
                    SignBoard b = Check.board(signs, "word " + words[word] + ";board " + hairs + " margin 2;cap 20");
                    Check.law(b, law);
                    bestOfAll(b, words[word] + " on " + hairs + " by " + law);
                }
            }
        }
        SignBoard one = free(2, 6, "cap 99");
        Check.law(one, "weigh 1 if row < 1 and gap + 5 < 12;weigh 0");
        Check.due("best of 6", one.best(false), 6);
        Check.shop(one, "board 10 margin 2");
        Check.due("best of 2", one.best(false), 2);
        one.shadow(1);
        Check.due("best of 0, with shadow", one.best(false), 0);
        one.squeezed(0, 1);
        Check.due("best of 1, with shadow", one.best(false), 1);
        Check.due("best of 1, off", one.best(true), 0);
    }

    private static void bestOfAll(SignBoard b, String what) {
        int best = NONE;
        int least = NONE;
        for (int white = 0; white <= 120; white++) {
            int off = b.laid(white, NONE);
            if (off != NONE && (least == NONE || off < least)) {
                best = white;
                least = off;
            }
        }
        Check.due("best of " + what, b.best(false), best);
        Check.due("best of " + what + ", off", b.best(true), least);
    }

    // ---- promise 23

    private static void nearestAtItsEnds() {
        SignBoard b = bars(2, "cap 99");
        int[][] due = {{0, 0}, {2, 0}, {3, 1}, {5, 1}, {7, 1}, {8, 2}, {145, 29}, {147, 29}, {148, 30}, {150, 30}, {2000, 30}};
        for (int[] d : due) {
            Check.due("nearest to " + d[0], b.nearest(0, d[0]), d[1]);
        }
        Check.law(b, "weigh 2");
        Check.due("as near below as above", b.nearest(0, 5), 0);
        Check.due("nearer above", b.nearest(0, 6), 1);
        Check.due("as near below as above, at the end", b.nearest(0, 295), 29);
        b.shadow(9);
        Check.due("with shadow 0 to 9 are alike", b.nearest(0, 4), 0);
        Check.due("with shadow 10", b.nearest(0, 6), 10);
        Check.due("with shadow 30", b.nearest(0, 2000), 30);
        Check.due("where it stands does not count", b.gap(0, 0), 3);
        SignBoard c = bars(14, "cap 5");
        Check.due("nearest of the last", c.nearest(12, 2000), 5);
        Check.law(c, "weigh 0");
        Check.due("all alike", c.nearest(12, 2000), 0);
        Check.law(c, "weigh 1 if gap > 29");
        Check.due("30 alone", c.nearest(12, 25), 30);
        Check.due("30 alone is farther off", c.nearest(12, 12), 0);
        Check.due("30 alone is nearer", c.nearest(12, 13), 30);
    }

    // ---- promise 24

    private static void cannotAtItsEnds() {
        String signs = "sign open wide 9 left 00000 right 71000;" + BAR;
        for (int letters : new int[] {2, 3, 14}) {
            SignBoard b = Check.board(signs + ";word 0" + " 1".repeat(letters - 2) + " 1");
            Check.due("cannot(7) of the first", b.cannot(7), 1);
            Check.due("cannot(8) of the first", b.cannot(8), 0);
            Check.due("cannot(9) of the first", b.cannot(9), 0);
            b = Check.board(signs + ";word" + " 1".repeat(letters - 2) + " 0 1");
            Check.due("cannot(7) of the last", b.cannot(7), 1 << letters - 2);
            Check.due("cannot(8) of the last", b.cannot(8), 0);
            Check.due("cannot(2000)", b.cannot(2000), 0);
        }
        SignBoard b = Check.board(signs + ";word" + " 0".repeat(14));
        Check.due("cannot(0) of all", b.cannot(0), (1 << 13) - 1);
        Check.due("cannot by the distance 0", bars(3, "").cannot(0), 0);
        Check.law(b, "weigh 1 if gap > 0");
        Check.due("the law sees the distance 0", b.cannot(0), 0);
        Check.law(b, "weigh 9;weigh 9;weigh 9;weigh 9;weigh 9;weigh 9;weigh 9;weigh 9;weigh 9;weigh 9;weigh 9;weigh 9");
        Check.due("cannot at 864", b.cannot(864), 0);
        Check.due("cannot at 863", b.cannot(863), (1 << 13) - 1);
    }

    // ---- promise 25

    private static void lackingAtItsEnds() {
        SignBoard b = free(3, 20, "cap 99");
        int[][] due = {{0, 0}, {1, 1}, {5, 1}, {6, 2}, {50, 10}, {51, 11}, {149, 30}, {150, 30}, {151, 30}, {2000, 30}};
        for (int[] d : due) {
            Check.due("lacks(" + d[0] + ")", b.lacks(d[0]), 2 * d[1] - 20);
        }
        b.squeezed(0, 1);
        Check.due("lacks, squeezed", b.lacks(50), -1);
        b.shadow(9);
        Check.due("lacks with shadow: of itself, and of each gap", b.lacks(50), 2 * 19 + 5 + 9 - 26);
        Check.shop(b, "board 26 margin 9");
        Check.due("lacks with margins", b.lacks(0), 5 + 9 + 18 - 26);
        Check.due("the most that can be short", bars(14, "board 10 margin 9").lacks(2000), 18 + 28 + 13 * 30 - 10);
        Check.due("lacks without letters", Check.board("board 10 margin 9").lacks(2000), 8);
        Check.due("lacks of one letter", bars(1, "board 120 margin 0").lacks(2000), 2 - 120);
    }

    private static void lackingIsTheLeastDistance() {
        SignBoard b = free(2, 10, "cap 99");
        // whites 0, 5, 10, then 0 at 3 to 5, then 30, 35, ..
        Check.law(b, "weigh 1 if gap < 3 or gap > 5");
        int[][] due = {{0, 0}, {5, 1}, {6, 2}, {10, 2}, {11, 6}, {30, 6}, {31, 7}, {150, 30}, {151, 30}};
        for (int[] d : due) {
            Check.due("lacks(" + d[0] + ") by the law", b.lacks(d[0]), d[1] - 10);
        }
        Check.law(b, "weigh 1 if gap < 30");
        Check.due("29 is the last by the law", b.lacks(145), 29 - 10);
        Check.due("none is that at least", b.lacks(146), 30 - 10);
        Check.law(b, "weigh 0");
        Check.due("of no weight 0 is 0", b.lacks(0), -10);
        Check.due("of no weight none is 1", b.lacks(1), 20);
    }

    // ---- promise 26

    private static void squeezeAtItsEnds() {
        // two letters 6 wide: 3 each is the most
        int[][] due = {{11, 30, 2}, {10, 60, 3}, {13, 0, 0}, {12, 0, 0}};
        for (int[] d : due) {
            SignBoard b = wide(2, 6, d[0]);
            Check.due("short", b.lacks(0), 12 - d[0]);
            Check.due("squeeze on " + d[0], b.squeeze(0, false), d[1]);
            Check.due("which on " + d[0], b.squeeze(0, true), d[2]);
        }
        SignBoard b = wide(2, 6, 12);
        int[] harms = {0, 30, 30 * 2, 30 * 5, 30 * 8, 30 * 13, 30 * 18, NONE, NONE};
        int[] which = {0, 2, 3, 3, 3, 3, 3, NONE, NONE};
        for (int hairs = 0; hairs < harms.length; hairs++) {
            Check.due("short by " + hairs, b.lacks(5 * hairs), hairs);
            Check.due("squeeze by " + hairs, b.squeeze(5 * hairs, false), harms[hairs]);
            Check.due("which by " + hairs, b.squeeze(5 * hairs, true), which[hairs]);
        }
        b.squeezed(1, 3);
        // now there are 3 hairs, and one letter that is not squeezed yet
        int[] fewer = {0, 0, 0, 0, 30, 30 * 4, 30 * 9, NONE};
        for (int hairs = 0; hairs < fewer.length; hairs++) {
            Check.due("squeeze by " + hairs + " less 3", b.squeeze(5 * hairs, false), fewer[hairs]);
            Check.due("which", b.squeeze(5 * hairs, true), fewer[hairs] == NONE ? NONE : fewer[hairs] > 0 ? 1 : 0);
        }
        b.squeezed(0, 1);
        Check.due("both are squeezed: nothing more", b.squeeze(20, false), 0);
        Check.due("both are squeezed: none", b.squeeze(25, false), NONE);
        SignBoard none = Check.board("board 10 margin 5");
        Check.due("without letters, not short", none.squeeze(0, false), 0);
        Check.due("without letters, which", none.squeeze(0, true), 0);
        Check.shop(none, "board 10 margin 6");
        Check.due("without letters, short", none.squeeze(0, false), NONE);
        Check.due("without letters, short, which", none.squeeze(0, true), NONE);
    }

    /** One letter, short by its width less 2 and by the shadow: not below width 1, and by 3 at most. */
    private static void squeezeByWidth() {
        int[][] due = {{2, 0, 10, NONE}, {3, 15, 60, NONE}, {4, 80, 180, NONE}, {5, 225, NONE, NONE}};
        for (int[] d : due) {
            SignBoard b = Check.board("sign open wide " + d[0] + " left 00000 right 00000;word 0;board 10 margin 4");
            for (int shadow = 0; shadow < 3; shadow++) {
                b.shadow(shadow);
                Check.due("short of width " + d[0], b.lacks(0), d[0] - 2 + shadow);
                Check.due("squeeze of width " + d[0] + " by " + (d[0] - 2 + shadow), b.squeeze(0, false), d[shadow + 1]);
                Check.due("which", b.squeeze(0, true), Math.min(1, d[shadow + 1]));
            }
        }
        SignBoard b = Check.board("sign open wide 12 left 00000 right 00000;word 0;board 10 margin 0");
        int[] harms = {4 * 60, 9 * 60, NONE};
        for (int shadow = 0; shadow < 3; shadow++) {
            b.shadow(shadow);
            Check.due("squeeze of width 12 by " + (2 + shadow), b.squeeze(0, false), harms[shadow]);
        }
    }

    /** 14 letters, each by 3: 42 hairs are the most. */
    private static void squeezeOfAll() {
        for (int lacks = 38; lacks <= 47; lacks++) {
            SignBoard b = Check.board("sign open wide 11 left 00000 right 00000;word" + " 0".repeat(14)
                    + ";board 116 margin 0");
            b.shadow(lacks - 38);
            Check.due("lacks", b.lacks(0), lacks);
            // what is less than 42 is left of the first letters: by 2 instead of 3 first
            Check.due("squeeze by " + lacks, b.squeeze(0, false), lacks > 42 ? NONE : 55 * (14 * 9 - 5 * (42 - lacks)));
            Check.due("which by " + lacks, b.squeeze(0, true), lacks > 42 ? NONE : (1 << 14) - 1);
        }
        SignBoard b = bars(14, "");
        Check.due("far too short", b.squeeze(2000, false), NONE);
        Check.due("far too short, which", b.squeeze(2000, true), NONE);
        // as many as 14 bars can be squeezed by: one each
        SignBoard thin = bars(14, "board 14 margin 0");
        Check.due("bars by 1 each", thin.squeeze(0, false), 140);
        thin.shadow(1);
        Check.due("bars by no more", thin.squeeze(0, false), NONE);
    }

    private static void squeezeIsTheFirst() {
        // ink 40, 10, 40, 10: the thin ones first, and of two alike the latter
        SignBoard b = Check.board("sign open wide 8 left 00000 right 00000;sign open wide 8 left 33333 right 33333;"
                + "word 0 1 0 1;board 32 margin 0");
        Check.law(b, "weigh 0");
        int[] harms = {0, 10, 20, 50, 80, 120, 160, 210, 260, 380};
        int[] which = {0, 8, 10, 10, 10, 14, 15, 15, 15, 15};
        for (int shadow = 0; shadow < 10; shadow++) {
            b.shadow(shadow);
            Check.due("short by " + shadow, b.lacks(0), shadow);
            Check.due("squeeze by " + shadow, b.squeeze(0, false), harms[shadow]);
            Check.due("which by " + shadow, b.squeeze(0, true), which[shadow]);
        }
        // as much harm in several ways: the first letter by the least
        SignBoard alike = Check.board("sign open wide 8 left 00000 right 00000;word" + " 0".repeat(14)
                + ";board 112 margin 0");
        for (int hairs = 0; hairs <= 9; hairs++) {
            alike.shadow(hairs);
            Check.due("of 14 alike the last " + hairs, alike.squeeze(0, true), ((1 << hairs) - 1) << 14 - hairs);
            Check.due("harm of " + hairs, alike.squeeze(0, false), 40 * hairs);
        }
    }

    // ---- promise 27

    private static void droppedAtItsEnds() {
        for (int letters : new int[] {1, 2, 14}) {
            SignBoard b = bars(letters, "board 10 margin 4");
            Check.due("all but one of " + letters, b.dropped(0), letters - 1);
            b.shadow(1);
            Check.due("not even one of " + letters, b.dropped(0), NONE);
            b.squeezed(0, 1);
            Check.due("one that is squeezed of " + letters, b.dropped(0), letters - 1);
            b.shadow(2);
            Check.due("not even that of " + letters, b.dropped(0), NONE);
        }
        SignBoard b = free(4, 12, "cap 99");
        // 12 hairs for three gaps, 14 for two, 16 for one
        int[][] due = {{0, 0}, {20, 0}, {21, 1}, {35, 1}, {36, 2}, {80, 2}, {81, 3}, {2000, 3}};
        for (int[] d : due) {
            Check.due("dropped(" + d[0] + ")", b.dropped(d[0]), d[1]);
        }
        Check.due("without letters", Check.board("board 120 margin 0").dropped(0), NONE);
    }

    // ---- promise 28

    private static void middleAtItsEnds() {
        // bars at 2, 7, 12, ..: the half is just behind a bar, or within one
        int[] middles = {3, 4, 8, 9, 13};
        for (int letters = 1; letters <= 5; letters++) {
            SignBoard b = bars(letters, "board 60 margin 2");
            Check.due("middle of " + letters, b.middle(false), middles[letters - 1]);
            Check.due("askew of " + letters, b.middle(true), middles[letters - 1] - 30);
        }
        for (int hairs : new int[] {10, 11, 119, 120}) {
            SignBoard b = bars(1, "board " + hairs + " margin 9");
            Check.due("middle by margin 9", b.middle(false), 10);
            Check.due("askew on " + hairs, b.middle(true), 10 - hairs / 2);
            SignBoard none = Check.board("board " + hairs + " margin 9");
            Check.due("askew without letters on " + hairs, none.middle(true), -(hairs / 2));
            Check.due("middle without letters", none.middle(false), 0);
        }
        // ink of one hair a row at hairs 1 and 2: 3 of 5 ahead of hair 2, or 2
        String more = "sign open wide 3 left 11122 right 11100;board 10 margin 0;word 0";
        Check.due("more than half", Check.board(more).middle(false), 2);
        String less = "sign open wide 3 left 11222 right 11000;board 10 margin 0;word 0";
        Check.due("less than half", Check.board(less).middle(false), 3);
        SignBoard b = Check.board("sign open wide 3 left 01101 right 11111;word 0;board 10 margin 0");
        Check.due("2 of 7, then all", b.middle(false), 2);
        b.squeezed(0, 1);
        // left on to width 2 less right 1: ink at hair 0 in rows 0 and 3
        Check.due("squeezed", b.middle(false), 1);
        b.squeezed(0, 2);
        Check.due("squeezed till no ink is left", b.middle(false), 0);
        Check.due("and askew", b.middle(true), -5);
    }

    /** 12 hairs of ink in one row, 3 in each other one: without the one row the middle would be ahead. */
    private static void middleOfEachRow() {
        for (int row = 0; row < 5; row++) {
            String right = "9".repeat(row) + "0" + "9".repeat(4 - row);
            SignBoard b = Check.board("sign open wide 12 left 00000 right " + right + ";word 0;board 20 margin 0");
            Check.due("the middle with row " + row, b.middle(false), 3);
            String left = "9".repeat(row) + "0" + "9".repeat(4 - row);
            SignBoard c = Check.board("sign open wide 12 left " + left + " right 00000;word 0;board 20 margin 0");
            Check.due("the middle with row " + row + " from the left", c.middle(false), 10);
        }
    }

    /** Squeezing takes ink away ahead of what is white at the right; what is white at the left stays. */
    private static void middleOfSqueezed() {
        SignBoard left = Check.board("sign open wide 8 left 33333 right 00000;word 0;board 20 margin 0");
        SignBoard both = Check.board("sign open wide 8 left 33333 right 22222;word 0;board 20 margin 9");
        // ink from hair 3 to 8, 7, 6, 5, and from 9 + 3 to 9 + 6, 9 + 5, 9 + 4, and none
        int[] ofLeft = {6, 5, 5, 4};
        int[] ofBoth = {14, 13, 13, 0};
        for (int hairs = 0; hairs <= 3; hairs++) {
            left.squeezed(0, hairs);
            both.squeezed(0, hairs);
            Check.due("the middle behind a left of 3, squeezed by " + hairs, left.middle(false), ofLeft[hairs]);
            Check.due("the middle between 3 and 2, squeezed by " + hairs, both.middle(false), ofBoth[hairs]);
        }
    }

    private static void middleFarOff() {
        for (int letters = 1; letters <= 14; letters++) {
            SignBoard b = Check.board("sign open wide 12 left 00000 right 00000;board 120 margin 9;word" + " 0".repeat(letters));
            for (int gap = 0; gap + 1 < letters; gap++) {
                b.shift(gap, 30);
            }
            int behind = letters % 2 == 0 ? letters / 2 * 42 - 30 : letters / 2 * 42 + 6;
            Check.due("the middle of " + letters + " far apart", b.middle(false), 9 + behind);
            Check.due("askew", b.middle(true), 9 + behind - 60);
        }
        // all but one letter are squeezed till they have no ink
        for (int inked = 0; inked < 14; inked++) {
            SignBoard b = Check.board("sign open wide 4 left 00000 right 33333;board 120 margin 0;word" + " 0".repeat(14));
            for (int letter = 0; letter < 14; letter++) {
                b.squeezed(letter, letter == inked ? 0 : 3);
                if (letter < 13) {
                    b.shift(letter, 30 - letter);
                }
            }
            Check.due("ink in letter " + inked + " alone", b.middle(false), b.letter(inked, 3) + 1);
        }
    }

    // ---- promises 29 to 31

    private static void readAtItsEnds() {
        SignBoard b = bars(2, "colour 5");
        b.shift(0, 4);
        for (int yards = 1; yards <= 60; yards++) {
            Check.due("5 by 4 at " + yards, b.read(yards, 0), yards <= 20);
            Check.due("runs at " + yards, b.runs(yards, 0), yards <= 20 ? 0 : 1);
        }
        Check.due("far is 20", b.far(0), 20);
        b.shift(0, 0);
        Check.due("no space is read nowhere", b.read(1, 0), false);
        Check.due("far", b.far(0), 0);
        b.shift(0, 1);
        int[][] fades = {{3, 2}, {4, 1}, {5, 0}, {6, 0}, {99, 0}};
        for (int[] f : fades) {
            Check.law(b, "fade " + f[0]);
            Check.due("contrast 5 less " + f[0], b.far(0), f[1]);
            Check.due("read there", b.read(Math.max(1, f[1]), 0), f[1] > 0);
            Check.due("read one beyond", b.read(f[1] + 1, 0), false);
        }
        SignBoard two = bars(3, "colour 99;cap 99");
        two.shift(1, 0);
        Check.due("for all gaps", two.read(1, 0), false);
        two.shift(1, 1);
        Check.due("for all gaps", two.read(60, 0), true);
        two.shadow(1);
        Check.due("with shadow", two.read(1, 0), false);
        // unweighed
        Check.law(two, "weigh 0");
        two.shadow(0);
        Check.due("weights do not count", two.read(60, 0), true);
        Check.shop(two, "cap 1;colour 59");
        Check.due("the cap counts", two.read(60, 0), false);
        Check.due("the cap counts", two.far(0), 59);
    }

    private static void readWithoutGaps() {
        for (int letters = 0; letters < 2; letters++) {
            SignBoard b = letters == 0 ? Check.board("colour 5") : bars(1, "colour 5");
            int[][] due = {{4, 1}, {5, 0}, {6, 0}};
            for (int[] d : due) {
                Check.law(b, "fade " + d[0]);
                Check.due("contrast 5 less " + d[0] + ", no gap", b.read(1, 0), d[1] == 1);
                Check.due("at 60", b.read(60, 9), d[1] == 1);
                Check.due("far", b.far(0), 60 * d[1]);
                Check.due("runs", b.runs(60, 0), 0);
                Check.due("bears", b.bears(60, 0), d[1] == 1 ? 9 : NONE);
            }
        }
    }

    // ---- promise 30

    private static void farAtItsEnds() {
        for (int far : new int[] {1, 2, 58, 59, 60, 61, 99}) {
            SignBoard b = bars(2, "colour " + far);
            b.shift(0, 1);
            Check.due("far of " + far, b.far(0), Math.min(60, far));
            Check.due("far of " + far + " by 9", b.far(9), Math.min(60, far));
        }
        SignBoard b = bars(2, "colour 99");
        Check.law(b, "fade 99 if yards > 59");
        Check.due("not read at 60", b.far(0), 59);
        Check.law(b, "fade 99 if yards < 2");
        Check.due("not read at 1, but beyond", b.far(0), 0);
        Check.due("read at 2", b.read(2, 0), true);
        Check.law(b, "fade 99 if yards > 29 and yards < 31 and light > 8");
        Check.due("at all fewer", b.far(9), 29);
        Check.due("by another light", b.far(8), 60);
    }

    // ---- promise 31

    private static void runsWherever() {
        for (int letters : new int[] {2, 3, 14}) {
            for (int gap = 0; gap < letters - 1; gap++) {
                SignBoard b = bars(letters, "colour 10");
                Check.due("none runs together", b.runs(30, 0), 0);
                b.shift(gap, 2);
                Check.due("one does", b.runs(30, 0), 1 << gap);
                Check.due("none at 20", b.runs(20, 0), 0);
                Check.due("one at 21", b.runs(21, 0), 1 << gap);
                Check.due("all at 31", b.runs(31, 0), (1 << letters - 1) - 1);
                Check.law(b, "fade 10");
                Check.due("all without contrast", b.runs(1, 0), (1 << letters - 1) - 1);
            }
        }
    }

    // ---- promise 32

    private static void bearsAtItsEnds() {
        for (int bears = 0; bears <= 10; bears++) {
            // by the room behind the last letter
            SignBoard b = bars(1, "board " + (10 + bears) + " margin 4");
            Check.due("room for " + bears, b.bears(60, 0), Math.min(9, bears));
            b.shadow(9);
            Check.due("whatever the shadow is", b.bears(60, 0), Math.min(9, bears));
            // by what is read: a hair of space at 50
            SignBoard c = bars(2, "board 120 margin 0");
            c.shift(0, bears);
            Check.due("read with " + bears, c.bears(50, 0), bears - 1);
            Check.due("read with " + bears + " at 60", c.bears(60, 0), bears < 2 ? NONE : bears - 2);
        }
        SignBoard b = bars(1, "board 10 margin 4");
        b.squeezed(0, 1);
        Check.due("one hair by squeezing", b.bears(1, 0), 1);
        SignBoard none = bars(2, "board 10 margin 4");
        Check.due("it does not fit", none.bears(1, 0), NONE);
        Check.due("bears leaves the shadow", none.count(5), 0);
        Check.law(none, "fade 99");
        Check.due("nor is it read", none.bears(1, 0), NONE);
    }

    // ---- promise 33

    private static void lampAtItsEnds() {
        for (int lamp = 0; lamp < 10; lamp++) {
            SignBoard b = bars(2, "colour 10");
            Check.law(b, "fade 1 if light < " + lamp + ";fade 1 if light > " + lamp);
            Check.due("lamp " + lamp, b.lamp(), lamp);
            Check.law(b, "fade 1 if light < " + lamp);
            Check.due("of several the least, " + lamp, b.lamp(), lamp);
        }
        SignBoard b = bars(2, "colour 10");
        Check.due("all alike", b.lamp(), 0);
        Check.law(b, "fade 10");
        Check.due("none is read", b.lamp(), 0);
        Check.law(b, "fade 10 if light < 9");
        Check.due("the last alone", b.lamp(), 9);
    }

    // ---- promises 34, 35

    private static void aslantAtItsEnds() {
        // of 14 bars only one gap is more than 0
        for (int gap = 0; gap < 13; gap++) {
            for (int a : new int[] {0, 1, 7, 8, 9}) {
                SignBoard b = bars(14, "cap 99");
                for (int other = 0; other < 13; other++) {
                    b.shift(other, other == gap ? 30 : 0);
                }
                int seen = a * gap >= 100 ? 0 : 30 * (100 - a * gap) / 100;
                Check.due("30 in gap " + gap + " by " + a, b.aslant(a), 5 * seen);
            }
        }
        SignBoard b = bars(3, "cap 99");
        b.shift(0, 0);
        int[][] due = {{0, 0, 0}, {0, 9, 0}, {1, 0, 1}, {1, 1, 0}, {2, 1, 1}, {10, 9, 9}, {11, 9, 10}, {12, 8, 11},
            {12, 9, 10}, {30, 1, 29}, {30, 9, 27}};
        for (int[] d : due) {
            b.shift(1, d[0]);
            Check.due(d[0] + " in gap 1 by " + d[1], b.aslant(d[1]), 5 * d[2]);
        }
        b.shadow(5);
        b.shift(1, 30);
        Check.due("the shadow is taken from what is seen", b.aslant(9), 5 * (27 - 5));
        Check.law(b, "weigh 1 if gap > 27;weigh 2 if gap < 28");
        Check.due("the law sees what is seen", b.aslant(9), 10 * 22);
        Check.due("the law sees what is seen, straight", b.aslant(0), 5 * 25);
    }

    private static void fromAtItsEnds() {
        SignBoard b = bars(3, "cap 99");
        Check.due("alike from 0", b.from(), 0);
        b.shift(1, 12);
        b.shift(0, 0);
        // seen as 12, then 11 from 1 on, then 10 by 9
        Check.due("the more the better", b.from(), 9);
        // seen as 30, 29 from 1 on, 28 from 4 on, 27 from 7 on
        b.shift(1, 30);
        b.shift(0, 29);
        Check.due("seen as 29 from 1 on", b.from(), 1);
        b.shift(0, 28);
        Check.due("seen as 28 from 4 on", b.from(), 4);
        b.shift(0, 30);
        Check.due("straight is best", b.from(), 0);
        b.shift(0, 27);
        Check.due("seen as 27 from 7, 8 or 9 on", b.from(), 7);
        b.shift(0, 3);
        b.shift(1, 3);
        b.shift(0, 0);
        // 3, then 2 from 1 to 9
        Check.due("of several the least", b.from(), 1);
    }

    // ---- promise 36

    private static void endsAtTheirEnds() {
        for (int letters : new int[] {0, 1}) {
            SignBoard b = letters == 0 ? Check.board(BAR) : bars(1, "");
            for (int d : new int[] {0, 1, 29, 30}) {
                Check.due("ends of " + letters, b.ends(d), -999);
            }
            Check.dueThrow("ends(31) of " + letters, Twins.ARGUMENT, () -> b.ends(31));
            Check.dueThrow("ends(-1) of " + letters, Twins.ARGUMENT, () -> b.ends(-1));
        }
        for (int letters : new int[] {2, 3, 4, 13, 14}) {
            SignBoard b = bars(letters, "board 120 margin 3");
            for (int d : new int[] {0, 1, 29, 30}) {
                Check.due("ends(" + d + ") of " + letters, b.ends(d), 114 - 2 * letters - d * (letters - 2));
            }
            b.squeezed(0, 1);
            b.shadow(9);
            Check.due("squeezed, with shadow", b.ends(0), 114 - 2 * letters + 1 - 9);
            b.shift(0, 30);
            Check.due("distances do not count", b.ends(0), 114 - 2 * letters + 1 - 9);
        }
        SignBoard b = bars(2, "board 10 margin 3");
        Check.due("nothing is left", b.ends(30), 0);
        b.shadow(1);
        Check.due("below 0", b.ends(30), -1);
        Check.due("as far below as can be", bars(14, "board 10 margin 9").ends(30), 10 - 18 - 28 - 360);
    }

    // ---- promise 41

    /** Two gaps, the first of white 0, so that the second's white is how uneven it is; 0 to 300. */
    private static SignBoard uneven(int uneven, String more) {
        SignBoard b = Check.board(BAR + ";sign open wide 12 left 0" + uneven % 10 + "000 right 00000;word 0 0 1",
                "cap 99;" + more);
        Check.law(b, "weigh 9 if row < 1;weigh 1 if row > 0 and row < 2");
        b.shift(0, 0);
        b.shift(1, uneven / 10);
        Check.due("uneven", b.uneven(), uneven);
        return b;
    }

    private static void lookersAtTheirEnds() {
        for (int sees : new int[] {0, 1, 2, 100, 199, 200}) {
            for (int uneven : new int[] {sees - 1, sees, sees + 1}) {
                if (uneven >= 0) {
                    SignBoard b = uneven(uneven, "looker " + sees);
                    Check.due("sees " + sees + " at the least: " + uneven, b.lookers(false), uneven < sees ? 1 : 0);
                    Check.due("one looker is no pair", b.lookers(true), 0);
                }
            }
        }
        Check.due("no looker", uneven(0, "cap 99").lookers(false), 0);
        Check.due("no pair", uneven(0, "cap 99").lookers(true), 0);
        SignBoard none = Check.board("looker 0;looker 1");
        Check.due("without letters it is even", none.lookers(false), 1);
    }

    private static void twosAtTheirEnds() {
        String[] lookers = {"looker 10;looker 10", "looker 10;looker 11", "looker 11;looker 10", "looker 11;looker 11"};
        int[] twos = {1, 0, 0, 1};
        int[] even = {0, 1, 1, 2};
        for (int i = 0; i < 4; i++) {
            SignBoard b = uneven(10, lookers[i]);
            Check.due("even by " + lookers[i], b.lookers(false), even[i]);
            Check.due("alike by " + lookers[i], b.lookers(true), twos[i]);
        }
        for (int seers = 0; seers <= 8; seers++) {
            String more = "looker 11;".repeat(seers) + "looker 10;".repeat(8 - seers);
            SignBoard b = uneven(10, more.substring(0, more.length() - 1));
            Check.due("even of eight", b.lookers(false), seers);
            Check.due("pairs of eight", b.lookers(true), seers * (seers - 1) / 2 + (8 - seers) * (7 - seers) / 2);
        }
    }

    // ---- promise 42

    private static void inchAtItsEnds() {
        // one gap: 0 to 30 hairs now, and 12 more
        for (int hairs : new int[] {12, 13, 17, 18, 19, 29, 30, 31}) {
            SignBoard b = wide(2, 6, 12 + hairs);
            boolean both = hairs <= 18;
            Check.due("inch with " + hairs, b.inch(0), both ? -60 : -9999);
            Check.due("inch with " + hairs + " far below", b.inch(2000), both ? 60 : -9999);
        }
        Check.due("now none, then some", wide(2, 6, 11).inch(0), -9999);
        Check.due("now none, then none", wide(2, 6, 43).inch(0), -9999);
        Check.due("now just, then just", wide(2, 6, 12).inch(60), 60);
        Check.due("now just, then too far", wide(2, 6, 12).inch(0), -60);
        Check.due("one letter, now", wide(1, 12, 12).inch(0), -9999);
        SignBoard then = Check.board("sign open wide 12 left 00000 right 00000;word 0;board 10 margin 5");
        Check.due("one letter, then", then.inch(0), -9999);
        Check.due("without letters", new SignBoard().inch(0), -9999);
        for (int hairs : new int[] {107, 108, 109, 119, 120}) {
            SignBoard b = wide(10, 2, hairs);
            Check.due("up to 132 hairs, on " + hairs, b.inch(2000), 60);
            Check.due("the board stays", b.count(2), hairs);
        }
    }
}
