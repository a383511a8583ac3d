import java.util.Arrays;

/** The edges of promises 2 to 6: the tape's ends, each number's bounds, each thing of a line, and what is one too many. */
public final class EdgesOfTextsTest {
    private static final int NONE = SignBoard.NONE;
    private static final String SIGN = "sign open wide 2 left 00000 right 00000";
    private static final String WRITER = "writer white 1 slip 1";
    private static final int[] TAPES = {0, 1, 19, 20, 21, 399, 400};

    public static void main(String[] args) {
        tapeIsFull();
        tapeTakesTheHighestFirst();
        tapeEnds();
        tapeBehindAnEnd();
        emptyTexts();
        numbersOfTheShop();
        signsOfAWord();
        figures();
        sidesAndWidth();
        thingsOfShopLines();
        thingsOfLawLines();
        linesBetween();
        bytesBesideWordsAndNumbers();
        signsTooMany();
        lettersTooMany();
        writersTooMany();
        lookersTooMany();
        linesTooMany();
        textsTooMany();
        wordsBeginAnew();
        numbersOfTheLaw();
        depths();
        factsAtTheirBounds();
        factsOfFades();
        sumsOfAllLines();
        longConditions();
        faults();
        Check.finish();
    }

    // ---- promises 2, 3: the tape

    private static SignBoard taped(int length) {
        SignBoard b = new SignBoard();
        Check.tape(b, ("cap 7" + " ".repeat(400)).substring(0, length));
        return b;
    }

    private static void tapeIsFull() {
        for (int length : new int[] {0, 360, 379, 380}) {
            Check.due("feed behind " + length, taped(length).feed(0, 0, 0, 0, 0), length + 20);
        }
        for (int length : new int[] {381, 382, 399, 400}) {
            Twins.leaves("feed behind " + length, NONE, () -> taped(length), b -> b.feed(0x3f3f3f3f, 1, 2, 3, 4));
            SignBoard b = taped(length);
            b.feed(0x3f3f3f3f, 1, 2, 3, 4);
            Check.due("none came behind " + length, b.end(length + 1), false);
        }
        SignBoard b = taped(381);
        b.feed(0, 0, 0, 0, 0);
        b.end(380);
        Check.due("feed once it is shorter", b.feed(0, 0, 0, 0, 0), 400);
        Check.due("a full tape has 400", b.end(400), true);
    }

    private static void tapeTakesTheHighestFirst() {
        for (int place = 0; place < 20; place++) {
            int[] n = new int[5];
            Arrays.fill(n, 0x20202020);
            n[place / 4] ^= 0x1f << 24 - 8 * (place % 4);
            SignBoard b = new SignBoard();
            b.feed(n[0], n[1], n[2], n[3], n[4]);
            Check.dueThrow("a wrong byte at " + place, Twins.ARGUMENT, b::shop);
            Check.due("its place", b.fault(), place);
        }
        SignBoard b = Check.board("writer white 0 slip 0;writer white 999 slip 0");
        b.feed(0x80000000, 0, 0, 0, 0);
        b.end(2);
        Check.due("a byte of 128 is no number below 0", b.wrote(), 1);
        b.feed(0x000a000b, 0x00ff0100, 0, 0, 0);
        b.end(8);
        Check.due("bytes of 0, 10, 11 and 255", b.likely(0), 1);
        b.feed(-1, -1, -1, -1, -1);
        Check.due("bytes of 255", b.wrote(), 1);
    }

    private static void tapeEnds() {
        for (int length : TAPES) {
            Twins.leaves("end(-1) of " + length, 0, () -> taped(length), b -> b.end(-1) ? 1 : 0);
            Twins.leaves("end(MIN) of " + length, 0, () -> taped(length), b -> b.end(Integer.MIN_VALUE) ? 1 : 0);
            Twins.leaves("end one beyond " + length, 0, () -> taped(length), b -> b.end(length + 1) ? 1 : 0);
            Twins.leaves("end(MAX) of " + length, 0, () -> taped(length), b -> b.end(Integer.MAX_VALUE) ? 1 : 0);
            Twins.leaves("end just at " + length, 1, () -> taped(length), b -> b.end(length) ? 1 : 0);
            SignBoard b = taped(length);
            Check.due("end(0) of " + length, b.end(0), true);
            Check.due("then there is none", b.end(1), false);
        }
        SignBoard b = taped(20);
        Check.due("end one ahead", b.end(19), true);
        Check.due("then there is one less", b.end(20), false);
    }

    private static void tapeBehindAnEnd() {
        SignBoard b = new SignBoard();
        Check.tape(b, "cap 70");
        b.end(5);
        Check.due("shop of what is left", b.shop(), 1);
        Check.due("cap", b.count(4), 7);
        Check.tape(b, "cap 7?");
        b.end(5);
        b.feed(0x38202020, 0x20202020, 0x20202020, 0x20202020, 0x20202020);
        b.shop();
        Check.due("what is fed comes behind the end", b.count(4), 78);
    }

    // ---- promises 4, 5: no line

    private static void emptyTexts() {
        for (int length : TAPES) {
            String text = " ".repeat(length);
            SignBoard b = Twins.rich();
            Check.tape(b, text);
            Check.due("shop of " + length + " blanks", b.shop(), 4);
            Check.due("it has no fault", b.fault(), NONE);
            Check.due("it is used up", b.end(1), false);
            Check.due("acts are forgotten", b.count(15), 0);
            Check.due("the word stays", b.count(1), 4);
            Check.due("what is painted stays", b.count(13), 5);
            Check.tape(b, text);
            Check.due("law of " + length + " blanks", b.law(), 0);
            Check.due("lines", b.count(10), 0);
            Check.due("it has no fault", b.fault(), NONE);
            Check.due("it is used up", b.end(1), false);
            Check.due("the law before is gone", b.fades(60, 0), 0);
        }
    }

    // ---- promise 4: numbers

    private static void wrongShop(String text, int fault) {
        Twins.refusesText("shop of '" + text + "'", Twins.ARGUMENT, fault, Twins::rich, b -> {
            Check.tape(b, text);
            return b.shop();
        });
    }

    private static void wrongLaw(String text, int fault) {
        Twins.refusesText("law of '" + text + "'", Twins.ARGUMENT, fault, Twins::rich, b -> {
            Check.tape(b, text);
            return b.law();
        });
    }

    private static String threeDigits(int n) {
        String digits = "00" + n;
        return digits.substring(digits.length() - 3);
    }

    /** The number's bounds, and one beyond on either side; one to three digits, and four; too large for any int. */
    private static void number(String ahead, int least, int most, String behind, Twins.Asked told) {
        for (int n : new int[] {least, least + 1, most - 1, most}) {
            for (String digits : new String[] {"" + n, threeDigits(n)}) {
                SignBoard b = Twins.rich();
                Check.shop(b, ahead + digits + behind);
                Check.due("of '" + ahead + digits + behind + "'", told.of(b), n);
            }
        }
        if (least > 0) {
            wrongShop(ahead + (least - 1) + behind, ahead.length());
        }
        for (String wrong : new String[] {"" + (most + 1), "0" + threeDigits(most), "999999999999", "4294967301",
            "-" + most, "x"}) {
            wrongShop(ahead + wrong + behind, ahead.length());
        }
        if (behind.isEmpty()) {
            wrongShop(ahead, ahead.length());
        }
    }

    /** A writer's and a looker's numbers cannot be asked for: here it counts that one more is there. */
    private static void oneMore(String ahead, int most, String behind, int what) {
        for (int n : new int[] {0, 1, most - 1, most}) {
            SignBoard b = Twins.rich();
            int before = b.count(what);
            Check.shop(b, ahead + n + behind);
            Check.due("one more by '" + ahead + n + behind + "'", b.count(what), before + 1);
        }
        for (String wrong : new String[] {"" + (most + 1), "0000", "0" + threeDigits(most), "4294967296", "-1", "x"}) {
            wrongShop(ahead + wrong + behind, ahead.length());
        }
    }

    private static void numbersOfTheShop() {
        number("sign round wide ", 2, 12, " left 00000 right 00000", b -> b.sign(4, 1));
        number("board ", 10, 120, " margin 5", b -> b.count(2));
        number("board 50 margin ", 0, 9, "", b -> b.count(3));
        number("cap ", 1, 99, "", b -> b.count(4));
        number("colour ", 1, 99, "", b -> b.count(6));
        number("word ", 0, 3, "", b -> b.letter(0, 0));
        number("word 1 ", 0, 3, " 2", b -> b.letter(1, 0));
        oneMore("looker ", 200, "", 8);
        oneMore("writer white ", 999, " slip 5", 7);
        oneMore("writer white 5 slip ", 100, "", 7);
        // a line that is told again takes the place of the one before, in the same text too
        SignBoard b = Check.board("cap 99;cap 1;board 120 margin 9;board 10 margin 0;colour 1;colour 99");
        Check.due("the latter cap", b.count(4), 1);
        Check.due("the latter board", b.count(2), 10);
        Check.due("the latter margin", b.count(3), 0);
        Check.due("the latter colour", b.count(6), 99);
    }

    private static void signsOfAWord() {
        SignBoard b = new SignBoard();
        Check.wrongShop(b, "word 0", 5);
        Check.wrongShop(b, "word 0;" + SIGN, 5);
        Check.shop(b, SIGN + ";word 0");
        Check.due("a sign that there is by then", b.letter(0, 0), 0);
        Check.wrongShop(b, "word 1;" + SIGN, 5);
        Check.shop(b, SIGN + ";word 1;" + SIGN);
        Check.due("the sign of the line before", b.letter(0, 0), 1);
        Check.wrongShop(b, SIGN + ";word 4;" + SIGN, 45);
    }

    private static void figures() {
        String ahead = "sign open wide 12 left ";
        for (String wrong : new String[] {"0", "000", "0000", "000000", "0000000000", "0000a", "a0000", "0000/", "0000:",
            "0 0000", "-00000", "+0000", ""}) {
            int at = ahead.length() + (wrong.isEmpty() ? 1 : 0);
            wrongShop(ahead + wrong + " right 00000", at);
            wrongShop(ahead + "00000 right " + wrong, ahead.length() + 12);
        }
        SignBoard b = Check.board(ahead + "01239 right 98720");
        for (int row = 0; row < 5; row++) {
            Check.due("left of row " + row, b.side(0, row, false), new int[] {0, 1, 2, 3, 9}[row]);
            Check.due("right of row " + row, b.side(0, row, true), new int[] {9, 8, 7, 2, 0}[row]);
        }
    }

    /** LEFT and RIGHT of each row together: one below WIDTH, WIDTH, one more. */
    private static void sidesAndWidth() {
        int[][] sides = {{2, 0, 1}, {2, 1, 0}, {3, 1, 1}, {9, 8, 0}, {9, 0, 8}, {12, 9, 2}, {12, 2, 9}, {12, 5, 6}};
        for (int[] s : sides) {
            for (int row = 0; row < 5; row++) {
                String left = figuresOf(row, s[1]);
                String ahead = "sign open wide " + s[0] + " left " + left + " right ";
                SignBoard b = Check.board(ahead + figuresOf(row, s[2]));
                Check.due("one below the width", b.side(0, row, false) + b.side(0, row, true), s[0] - 1);
                Check.due("ink of it", b.sign(0, 2), 4 * s[0] + 1);
                if (s[2] < 9) {
                    wrongShop(ahead + figuresOf(row, s[2] + 1), ahead.length());
                }
                if (s[2] < 8) {
                    wrongShop(ahead + figuresOf(row, s[2] + 2), ahead.length());
                }
                if (s[1] < 9) {
                    wrongShop("sign open wide " + s[0] + " left " + figuresOf(row, s[1] + 1) + " right "
                            + figuresOf(row, s[2]), ahead.length());
                }
            }
        }
        // the first F alone may be as much as the width: the second is wrong all the same, once it is told
        wrongShop("sign open wide 2 left 20000 right 00000", 34);
        wrongShop("sign open wide 2 left 99999 right 00000", 34);
        wrongShop("sign open wide 2 left 99999", 27);
        wrongShop("sign open wide 2 left 99999 ;", 28);
        wrongShop("sign open wide 2 left 99999 right 0000", 34);
    }

    private static String figuresOf(int row, int n) {
        return "0".repeat(row) + n + "0".repeat(4 - row);
    }

    // ---- promises 4 to 6: each thing of a line

    private static String join(String[] things, int to) {
        return String.join(" ", Arrays.copyOf(things, to));
    }

    private static boolean isIn(int i, int... all) {
        return Arrays.stream(all).anyMatch(one -> one == i);
    }

    private interface Wrong {
        void text(String text, int fault);
    }

    /** The line cut off ahead of each thing, and each thing replaced; it may end ahead of the things of `ends`. */
    private static void things(String line, Wrong wrong, String ahead, int... ends) {
        String[] things = line.split(" ");
        for (int i = 0; i < things.length; i++) {
            String before = ahead + (i > 0 ? join(things, i) + " " : "");
            String behind = i + 1 < things.length ? line.substring(join(things, i + 1).length()) : "";
            if (i > 0 && !isIn(i, ends)) {
                wrong.text(before.substring(0, before.length() - 1), before.length() - 1);
                wrong.text(before, before.length());
                wrong.text(before + "   ", before.length() + 3);
                wrong.text(before + ";", before.length());
            }
            for (String other : others(things[i])) {
                wrong.text(before + other + behind, before.length());
            }
        }
    }

    /** What cannot stand there: of a word also a longer one, a shorter one, and with a capital. */
    private static String[] others(String thing) {
        if (!Character.isLetter(thing.charAt(0))) {
            return new String[] {"?", "zz", "0000000", "="};
        }
        String cut = thing.substring(0, thing.length() - 1);
        return new String[] {"?", "zz", "0000000", thing + "z", "z" + thing, cut, cut + " " + thing.charAt(cut.length()),
            thing.toUpperCase(), cut + Character.toUpperCase(thing.charAt(cut.length()))};
    }

    private static void thingsOfShopLines() {
        for (String ahead : new String[] {"", "  ", "cap 5;", " cap 5 ; "}) {
            things("sign straight wide 12 left 98765 right 00000", EdgesOfTextsTest::wrongShop, ahead);
            things("board 120 margin 9", EdgesOfTextsTest::wrongShop, ahead);
            things("cap 99", EdgesOfTextsTest::wrongShop, ahead);
            things("word 0 3 1", EdgesOfTextsTest::wrongShop, ahead, 2, 3);
            things("writer white 999 slip 100", EdgesOfTextsTest::wrongShop, ahead);
            things("looker 200", EdgesOfTextsTest::wrongShop, ahead);
            things("colour 99", EdgesOfTextsTest::wrongShop, ahead);
        }
        int sort = 0;
        for (String name : new String[] {"straight", "round", "slant", "open"}) {
            Check.due("sort " + name, Check.board("sign " + name + " wide 2 left 00000 right 00000").sign(0, 0), sort);
            things("sign " + name + " wide 2", EdgesOfTextsTest::wrongShop, "");
            sort++;
        }
    }

    private static void thingsOfLawLines() {
        for (String ahead : new String[] {"", "  ", "fade 5;", " weigh 5 if open ; "}) {
            things("weigh 9", EdgesOfTextsTest::wrongLaw, ahead);
            things("fade 99", EdgesOfTextsTest::wrongLaw, ahead);
            things("fade 99 if row + 999 < gap and not left > right + light + yards or ( open and round or slant )",
                    EdgesOfTextsTest::wrongLaw, ahead, 2, 8, 13, 15, 17);
        }
    }

    private static void linesBetween() {
        for (String line : new String[] {"cap 5", SIGN, "board 10 margin 0", "word 0 1", WRITER, "looker 5", "colour 5"}) {
            wrongShop(line + ";", line.length() + 1);
            wrongShop(line + " ; ", line.length() + 3);
            wrongShop(line + ";;" + line, line.length() + 1);
            wrongShop(line + " cap 5", line.length() + 1);
            wrongShop(line + ",cap 5", line.length());
            wrongShop(line + "(", line.length());
            wrongShop(";" + line, 0);
            wrongShop("  ;" + line, 2);
            if (!line.startsWith("word")) {
                wrongShop(line + " 5", line.length() + 1);
            }
            SignBoard b = Twins.rich();
            Check.shop(b, "  " + line + "  ;  " + "cap 9" + "  ");
            Check.due("blanks ahead, between and behind", b.count(4), 9);
        }
        for (String line : new String[] {"weigh 5", "fade 5 if open", "fade 5 if (row<5)"}) {
            wrongLaw(line + ";", line.length() + 1);
            wrongLaw(line + " ; ", line.length() + 3);
            wrongLaw(line + ";;" + line, line.length() + 1);
            wrongLaw(line + " fade 5", line.length() + 1);
            wrongLaw(line + ",fade 5", line.length());
            wrongLaw(";" + line, 0);
            wrongLaw(line + " 5", line.length() + 1);
            wrongLaw(line + ")", line.length());
            SignBoard b = Twins.rich();
            Check.law(b, "  " + line + "  ;  " + "fade 9" + "  ");
            Check.due("blanks ahead, between and behind", b.count(10), 2);
        }
        wrongLaw("cap 5", 0);
        wrongShop("fade 5", 0);
    }

    /** Bytes that are neither of words (a to z), of numbers, blanks, nor signs of a text: A to Z among them. */
    private static void bytesBesideWordsAndNumbers() {
        String right = "abcdefghijklmnopqrstuvwxyz0123456789 ;+<>()";
        for (int sign = 0; sign < 256; sign++) {
            String wrong = String.valueOf((char) sign);
            if (right.contains(wrong)) {
                continue;
            }
            wrongShop(wrong, 0);
            wrongShop(wrong + "cap 5", 0);
            wrongShop("ca" + wrong + " 5", 0);
            wrongShop("cap" + wrong + "5", 3);
            wrongShop("cap " + wrong + "5", 4);
            wrongShop("cap 5" + wrong, 5);
            wrongLaw("fade 5 if ro" + wrong + " < 5", 10);
            wrongLaw("fade 5 if row" + wrong + "5", 13);
            wrongLaw("fade 5 if row < 5" + wrong, 17);
        }
        for (String text : new String[] {"cap5", "cap 5", " cap  5 ", "cap5;cap5", "cap 5;cap5 "}) {
            Check.due("cap by '" + text + "'", Check.board(text).count(4), 5);
        }
        wrongShop("cap 5 5", 6);
        wrongShop("c ap 5", 0);
        wrongShop("cap 5cap 5", 5);
        wrongShop("word 0 0a", 8);
    }

    // ---- promise 4: one too many

    private static SignBoard withSigns(int signs) {
        SignBoard b = new SignBoard();
        for (int told = 0; told < signs; told += 3) {
            int more = Math.min(3, signs - told);
            Check.shop(b, SIGN + (";" + SIGN).repeat(more - 1));
        }
        b.shadow(1);
        return b;
    }

    private static void tooMany(String what, Twins.Maker maker, String text, int fault) {
        Twins.refusesText(what, Twins.ARGUMENT, fault, maker, b -> {
            Check.tape(b, text);
            return b.shop();
        });
    }

    private static void signsTooMany() {
        SignBoard b = withSigns(11);
        Check.shop(b, SIGN + ";word 11 0");
        Check.due("a 12th sign", b.count(0), 12);
        Check.due("a letter of it", b.letter(0, 0), 11);
        Check.wrongShop(b, "word 12", 5);
        tooMany("a 13th sign", () -> withSigns(12), SIGN, 0);
        tooMany("a 13th sign behind a line", () -> withSigns(12), "cap 5; " + SIGN, 7);
        tooMany("a 13th sign of the same text", () -> withSigns(10), (SIGN + ";").repeat(2) + SIGN, 80);
        tooMany("a 13th sign that is wrong besides", () -> withSigns(12), "  sign", 2);
        tooMany("ahead of a 13th sign something is wrong", () -> withSigns(12), "cap 0;" + SIGN, 4);
        Check.shop(b, "cap 5");
        Check.due("other lines are told all the same", b.count(4), 5);
    }

    private static void lettersTooMany() {
        for (int letters : new int[] {1, 13, 14}) {
            SignBoard b = Check.board(SIGN + ";word" + " 0".repeat(letters));
            Check.due("letters", b.count(1), letters);
            Check.due("the last begins", b.letter(letters - 1, 3), 2 + 5 * (letters - 1));
            Check.dueThrow("one more", Twins.INDEX, () -> b.letter(letters, 0));
        }
        wrongShop("word" + " 0".repeat(15), 33);
        wrongShop("word" + " 0".repeat(40), 33);
        wrongShop("word" + " 0".repeat(14) + " 9999", 33);
        wrongShop("word" + " 0".repeat(14) + "?", 32);
        wrongShop("word" + " 0".repeat(13) + " 4", 31);
        SignBoard b = Check.board(SIGN + ";word" + " 0".repeat(14) + " ; cap 5;word 0");
        Check.due("a word in place of the one before", b.count(1), 1);
        Check.shop(b, "word 0" + ";word" + " 0".repeat(14));
        Check.due("they do not add up", b.count(1), 14);
    }

    private static void writersTooMany() {
        SignBoard b = Check.board(WRITER + (";" + WRITER).repeat(4));
        Check.shop(b, "writer white 7 slip 7");
        Check.due("a 6th writer", b.count(7), 6);
        Check.due("it can paint", b.paint(5), NONE);
        Twins.Maker six = () -> Check.board(WRITER + (";" + WRITER).repeat(5));
        tooMany("a 7th writer", six, WRITER, 0);
        tooMany("a 7th writer behind a line", six, "cap 5; " + WRITER, 7);
        tooMany("a 7th writer that is wrong besides", six, " writer black", 1);
        tooMany("a 7th writer of the same text", () -> Check.board(WRITER), WRITER + (";" + WRITER).repeat(5), 110);
    }

    private static void lookersTooMany() {
        SignBoard b = Check.board("looker 1" + ";looker 1".repeat(6));
        Check.shop(b, "looker 1");
        Check.due("an 8th looker", b.count(8), 8);
        Check.due("all see it", b.lookers(false), 8);
        Check.due("all of them alike", b.lookers(true), 28);
        Twins.Maker eight = () -> Check.board("looker 1" + ";looker 1".repeat(7));
        tooMany("a 9th looker", eight, "looker 1", 0);
        tooMany("a 9th looker behind a line", eight, "cap 5; looker 1", 7);
        tooMany("a 9th looker that is wrong besides", eight, " looker 999", 1);
        tooMany("a 9th looker of the same text", () -> Check.board("looker 1"), "looker 1" + ";looker 1".repeat(8), 63);
    }

    private static void linesTooMany() {
        for (int lines : new int[] {1, 2, 13, 14}) {
            SignBoard b = Twins.rich();
            Check.shop(b, "cap 5;".repeat(lines - 1) + "cap 6");
            Check.due("cap by the last of " + lines + " lines", b.count(4), 6);
        }
        wrongShop("cap 5" + ";cap 5".repeat(14), 84);
        wrongShop("cap 5" + ";cap 5".repeat(13) + " ;  x", 87);
        wrongShop("cap 5" + ";cap 5".repeat(13) + " ; ", 86);
        wrongShop("cap 5" + ";cap 5".repeat(13) + "cap 5", 83);
        wrongShop("cap 5" + ";cap 5".repeat(14) + ";cap 5", 84);
        for (int lines : new int[] {1, 11, 12}) {
            SignBoard b = Twins.rich();
            Check.tape(b, "fade 5" + ";fade 5".repeat(lines - 1));
            Check.due("law of " + lines, b.law(), lines);
            Check.due("lines", b.count(10), lines);
            Check.due("all of them count", b.fades(1, 0), 5 * lines);
        }
        wrongLaw("fade 5" + ";fade 5".repeat(12), 84);
        wrongLaw("fade 5" + ";fade 5".repeat(11) + " ;  x", 87);
        wrongLaw("fade 5" + ";fade 5".repeat(11) + " ; ", 86);
        wrongLaw("fade 5" + ";fade 5".repeat(13), 84);
    }

    private static void textsTooMany() {
        SignBoard b = new SignBoard();
        for (int text = 1; text <= 12; text++) {
            Check.tape(b, text == 11 ? "" : "cap " + text);
            Check.due("text " + text, b.shop(), text);
            Check.due("texts", b.count(9), text);
        }
        Check.due("the 12th counts", b.count(4), 12);
        for (String text : new String[] {"", "  ", "cap 7", "word 0", SIGN + ";word 4"}) {
            Twins.refusesText("a 13th text '" + text + "'", Twins.UNSUPPORTED, NONE, Twins::allTold, c -> {
                Check.tape(c, text);
                return c.shop();
            });
        }
        // of several exceptions the one told first
        tooMany("a 13th text that is wrong", Twins::allTold, "cap 100", 4);
        tooMany("a 13th text that must go on", Twins::allTold, "cap", 3);
        SignBoard c = Twins.allTold();
        Check.law(c, "fade 1");
        Check.due("a law is no text of the shop", c.count(10), 1);
        Check.due("going back", c.back(), true);
        Check.due("then there are as many as then", c.count(9), 3);
        Check.shop(c, "cap 9");
        Check.due("and one more can be told", c.count(9), 4);
    }

    private static void wordsBeginAnew() {
        SignBoard b = Twins.rich();
        int days = b.count(11);
        Check.shop(b, "word 2 1");
        Check.due("letters", b.count(1), 2);
        Check.due("the distance is 3", b.gap(0, 0), 3);
        Check.due("nothing is squeezed", b.letter(1, 1), 0);
        Check.due("nothing is painted", b.count(13), 0);
        Check.due("no day", b.letter(0, 4), NONE);
        Check.due("nothing is wet", b.order(0), 0);
        Check.due("acts are forgotten", b.count(15), 0);
        Check.due("days go on", b.count(11), days);
        Check.due("the log stays", b.count(14), 2);
        Check.due("the shadow stays", b.count(5), 1);
        Check.due("the law stays", b.count(10), 4);
        SignBoard wet = Check.board(SIGN + ";writer white 1 slip 0;word 0 0");
        wet.paint(0);
        wet.paint(0);
        Check.due("the second letter is wet", wet.paint(0), 1);
        Check.shop(wet, "word 0 0 0");
        Check.due("nothing is wet: the first can be painted", wet.order(0), 0);
        Check.due("and is", wet.paint(0), 0);
        SignBoard longer = Check.board(SIGN + ";word 0 0");
        longer.shift(0, 9);
        Check.shop(longer, "word" + " 0".repeat(14));
        for (int gap = 0; gap < 13; gap++) {
            Check.due("distance " + gap + " of a longer word", longer.gap(gap, 0), 3);
        }
        longer.shift(12, 8);
        Check.shop(longer, "cap 5");
        Check.due("a text without a word leaves it", longer.gap(12, 0), 8);
    }

    // ---- promise 5: the law's numbers, its depth, its facts

    private static void numbersOfTheLaw() {
        for (int n : new int[] {0, 1, 8, 9}) {
            for (String digits : new String[] {"" + n, threeDigits(n)}) {
                SignBoard b = Twins.rich();
                Check.law(b, "weigh " + digits);
                Check.due("weight by " + digits, b.row(0, 0, true), n);
            }
        }
        for (int n : new int[] {0, 1, 98, 99}) {
            for (String digits : new String[] {"" + n, threeDigits(n)}) {
                SignBoard b = Twins.rich();
                Check.law(b, "fade " + digits);
                Check.due("fades by " + digits, b.fades(1, 0), n);
            }
        }
        for (String wrong : new String[] {"10", "0000", "0009", "999", "4294967296", "-1", "x"}) {
            wrongLaw("weigh " + wrong, 6);
        }
        for (String wrong : new String[] {"100", "0000", "0099", "999", "4294967296", "-1", "x"}) {
            wrongLaw("fade " + wrong, 5);
        }
        Check.due("999 is above 998", fades("fade 1 if 999 > 998", 1, 0), 1);
        Check.due("998 is not above 999", fades("fade 1 if 998 > 999", 1, 0), 0);
        Check.due("000 is below 1", fades("fade 1 if 000 < 1", 1, 0), 1);
        Check.due("999 and 999 and 2 is above 999 and 999 and 1", fades("fade 1 if 999+999+2 > 999+999+1", 1, 0), 1);
        for (String wrong : new String[] {"1000", "0000", "0999", "4294967296", "-1"}) {
            wrongLaw("fade 1 if " + wrong + " < 5", 10);
            wrongLaw("fade 1 if row < " + wrong, 16);
            wrongLaw("fade 1 if row + " + wrong + " < 5", 16);
        }
    }

    private static int fades(String law, int yards, int light) {
        SignBoard b = new SignBoard();
        Check.law(b, law);
        return b.fades(yards, light);
    }

    /** Each row of ( and not within one another: six are right, the seventh is wrong wherever it stands. */
    private static void depths() {
        for (int way = 0; way < 64; way++) {
            StringBuilder open = new StringBuilder("fade 1 if ");
            StringBuilder shut = new StringBuilder();
            int nots = 0;
            int deep = 0;
            for (int depth = 1; depth <= 6; depth++) {
                boolean not = (way >> depth - 1 & 1) == 1;
                open.append(not ? "not " : "( ");
                shut.append(not ? "" : " )");
                nots += not ? 1 : 0;
                deep = not ? deep : depth;
            }
            Check.due("law '" + open + "light > 0" + shut + "'", fades(open + "light > 0" + shut, 1, 1), 1 - nots % 2);
            Check.due("law '" + open + "light > 0" + shut + "'", fades(open + "light > 0" + shut, 1, 0), nots % 2);
            wrongLaw(open + "not open" + shut, open.length());
            wrongLaw(open + "(open)" + shut, open.length());
            // behind an atom only what stands round the last ( is deep
            String more = open + "open and " + "not ".repeat(6 - deep);
            Check.due("law '" + more + "open" + shut + "'", fades(more + "open" + shut + " or 0<1", 1, 0), 1);
            wrongLaw(more + "not open" + shut, more.length());
            wrongLaw(more + "(open)" + shut, more.length());
        }
        String six = "((((((light > 0))))))";
        Check.due("six behind six", fades("fade 1 if " + six + " and " + six + " or not " + six.substring(1, 20), 1, 1), 1);
        Check.due("five, then six nots", fades("fade 1 if (((((open))))) or not not not not not not light>0", 1, 1), 1);
        wrongLaw("fade 1 if ((((((open)))))) or (((((((open", 36);
        wrongLaw("fade 1 if not not not not not not open and not not not not not not not open", 67);
        wrongLaw("fade 1;fade 1 if not not not not not not not", 41);
        wrongLaw("fade 1 if ((((((open)))))", 25);
        wrongLaw("fade 1 if ((((((open)))))))", 26);
    }

    private static int weight(String law, int gap, int row) {
        SignBoard b = Check.board("sign straight wide 10 left 00000 right 90001;sign open wide 10 left 09010 right 00000;"
                + "sign round wide 2 left 00000 right 00000;sign slant wide 2 left 00000 right 00000;word 0 1 2 3 0 0");
        b.shift(1, 0);
        b.shift(2, 30);
        b.shift(3, 29);
        b.shift(4, 1);
        Check.law(b, law);
        return b.row(gap, row, true);
    }

    private static void factsAtTheirBounds() {
        for (int row = 0; row < 5; row++) {
            Check.due("row below " + row, weight("weigh 1 if row < " + row, 0, row), 0);
            Check.due("row below one more than " + row, weight("weigh 1 if row < " + (row + 1), 0, row), 1);
            Check.due("row above " + row, weight("weigh 1 if row > " + row, 0, row), 0);
            Check.due("row and 1 above " + row, weight("weigh 1 if row + 1 > " + row, 0, row), 1);
        }
        int[][] gaps = {{0, 3}, {1, 0}, {2, 30}, {3, 29}, {4, 1}};
        for (int[] gap : gaps) {
            String law = "weigh 1 if gap < " + (gap[1] + 1) + " and gap + 1 > " + gap[1];
            Check.due("gap is the distance " + gap[1], weight(law, gap[0], 0), 1);
            Check.due("gap is not below " + gap[1], weight("weigh 1 if gap < " + gap[1], gap[0], 0), 0);
            Check.due("gap is not above " + gap[1], weight("weigh 1 if gap > " + gap[1], gap[0], 0), 0);
        }
        int[] left = {9, 0, 0, 0, 1};
        int[] right = {0, 9, 0, 1, 0};
        for (int row = 0; row < 5; row++) {
            String isLeft = "weigh 1 if left < " + (left[row] + 1) + " and left + 1 > " + left[row];
            Check.due("left of row " + row, weight(isLeft, 0, row), 1);
            String isRight = "weigh 1 if right < " + (right[row] + 1) + " and right + 1 > " + right[row];
            Check.due("right of row " + row, weight(isRight, 0, row), 1);
            Check.due("left + right of row " + row, weight("weigh 1 if left + right > " + (left[row] + right[row]), 0, row), 0);
        }
        Check.due("light is 0", weight("weigh 1 if light < 1", 0, 0), 1);
        Check.due("light is not below 0", weight("weigh 1 if light < 0", 0, 0), 0);
        Check.due("yards are 0", weight("weigh 1 if yards < 1", 0, 0), 1);
        Check.due("alike is not below", weight("weigh 1 if 5 < 5", 0, 0), 0);
        Check.due("alike is not above", weight("weigh 1 if 5 > 5", 0, 0), 0);
        int[] sorts = {4, 4 + 1, 1 + 2, 2, 0};
        for (int gap = 0; gap < 5; gap++) {
            Check.due("sorts of gap " + gap, weight("weigh 1 if round;weigh 2 if slant;weigh 4 if open", gap, 0), sorts[gap]);
            Check.due("what gap " + gap + " is not",
                    weight("weigh 1 if not round;weigh 2 if not slant;weigh 4 if not open", gap, 0), 7 - sorts[gap]);
            Check.due("sorts and more of gap " + gap,
                    weight("weigh 1 if round and 0<1;weigh 2 if 0<1 and slant;weigh 4 if open and open", gap, 0), sorts[gap]);
        }
    }

    private static void factsOfFades() {
        for (int light = 0; light < 10; light++) {
            Check.due("light " + light, fades("fade 1 if light < " + (light + 1) + " and light + 1 > " + light, 1, light), 1);
            Check.due("light below " + light, fades("fade 1 if light < " + light, 1, light), 0);
            Check.due("light above " + light, fades("fade 1 if light > " + light, 1, light), 0);
        }
        for (int yards : new int[] {1, 2, 59, 60}) {
            Check.due("yards " + yards, fades("fade 1 if yards < " + (yards + 1) + " and yards + 1 > " + yards, yards, 0), 1);
            Check.due("yards below " + yards, fades("fade 1 if yards < " + yards, yards, 0), 0);
            Check.due("yards above " + yards, fades("fade 1 if yards > " + yards, yards, 0), 0);
        }
        SignBoard b = Twins.rich();
        Check.law(b, "fade 1 if row + gap + left + right > 0;fade 2 if round or slant or open;"
                + "fade 4 if not round and not slant and not open;fade 8 if row + gap + left + right < 1;weigh 9");
        Check.due("all else is 0, or false", b.fades(60, 9), 12);
        b.row(2, 4, true);
        b.gap(1, 1);
        Check.due("also behind a weight", b.fades(60, 9), 12);
        Check.law(b, "weigh 9 if light + yards < 1;fade 1 if light + yards > 0");
        Check.due("light and yards", b.fades(60, 9), 1);
        Check.due("weights go without them", b.row(1, 0, true), 9);
        Check.due("whites, too", b.gap(1, 1), 9 * 5 * 3 - 9 * 5 + 9 * (2 + 1 + 1));
        Check.law(b, "weigh 9");
        Check.due("no fade line", b.fades(1, 0), 0);
        Check.due("no law", new SignBoard().fades(1, 0), 0);
        Check.law(b, "fade 9");
        Check.due("no weigh line", b.row(0, 0, true), 0);
        Check.due("no law", Check.board(SIGN + ";word 0 0").row(0, 0, true), 1);
    }

    private static void sumsOfAllLines() {
        SignBoard b = Check.board(SIGN + ";word 0 0;cap 99");
        Check.law(b, "weigh 9" + ";weigh 9".repeat(11));
        Check.due("weight by 12 lines", b.row(0, 0, true), 108);
        Check.due("white by 12 lines", b.gap(0, 1), 5 * 3 * 108);
        Check.law(b, "fade 99" + ";fade 99".repeat(11));
        Check.due("fades by 12 lines", b.fades(1, 0), 12 * 99);
        Check.law(b, "fade 99" + ";fade 99 if open".repeat(11));
        Check.due("fades by the first alone", b.fades(1, 0), 99);
        Check.law(b, "fade 99 if open;".repeat(11) + "fade 98");
        Check.due("fades by the last alone", b.fades(1, 0), 98);
        // the largest white there is
        SignBoard c = Check.board("sign open wide 10 left 99999 right 00000;sign open wide 10 left 00000 right 99999;"
                + "word 1 0;cap 99");
        Check.law(c, "weigh 9" + ";weigh 9".repeat(11));
        c.shift(0, 30);
        Check.due("the largest white", c.gap(0, 1), 48 * 5 * 108);
        Check.due("off of it", c.off(2000), 48 * 5 * 108 - 2000);
    }

    /** As long as the tape: sums, and, or, and lines that fill 400 bytes. */
    private static void longConditions() {
        StringBuilder sum = new StringBuilder("fade 1 if 1");
        while (sum.length() < 390) {
            sum.append("+1");
        }
        int ones = (sum.length() - 9) / 2;
        String law = sum + "<" + (ones + 1);
        Check.due("a long sum is below", fades(law, 1, 0), 1);
        Check.due("a long sum is not below", fades(sum + "<" + ones, 1, 0), 0);
        StringBuilder text = new StringBuilder("fade 1 if 1>1");
        while (text.length() <= 400 - 5) {
            text.append("or1<1");
        }
        Check.due("many or", fades(text.toString(), 1, 0), 0);
        String last = text.substring(0, text.length() - 5) + "or0<1";
        Check.due("many or, the last holds", fades(last, 1, 0), 1);
        String and = text.toString().replace("or", "and").replace("1<1", "0<1").replace("1>1", "1>0").substring(0, 397);
        Check.due("many and", fades(and, 1, 0), 1);
        Check.due("many and, the first does not hold", fades(and.replace("1>0", "1>1"), 1, 0), 0);
        String full = " ".repeat(391) + "fade 1 if";
        Check.wrongLaw(new SignBoard(), full, 400);
        Check.wrongShop(new SignBoard(), " ".repeat(397) + "cap", 400);
        Check.wrongShop(new SignBoard(), " ".repeat(399) + "x", 399);
        Check.due("a full tape", Check.board(" ".repeat(395) + "cap 7").count(4), 7);
    }

    // ---- promise 6

    private static void faults() {
        SignBoard b = new SignBoard();
        Check.due("fault() ahead of any", b.fault(), NONE);
        Check.wrongShop(b, "x", 0);
        Check.due("fault() again", b.fault(), 0);
        Check.wrongLaw(b, "fade", 4);
        Check.shop(b, "");
        Check.due("fault() of a right text of the shop", b.fault(), NONE);
        Check.wrongLaw(b, "fade 5 5", 7);
        Check.law(b, "");
        Check.due("fault() of a right law", b.fault(), NONE);
        Check.wrongShop(b, "cap 0", 4);
        Check.tape(b, "abc");
        Check.dueThrow("wrote", Twins.ARGUMENT, b::wrote);
        Check.due("whites are no text", b.fault(), 4);
        b.shadow(3);
        b.undo();
        b.image();
        b.back();
        Check.due("undo and back leave it", b.fault(), 4);
    }
}
