/** Promises 2 to 6: the tape, the texts of the shop and of the law, and where they are wrong. */
public final class TextsTest {
    private static final String SIGN = "sign open wide 2 left 00000 right 00000";

    public static void main(String[] args) {
        tape();
        rightShopTexts();
        wrongSigns();
        wrongLines();
        tooMany();
        refusedTexts();
        rightLaws();
        wrongLaws();
        depths();
        Check.finish();
    }

    private static void tape() {
        SignBoard b = new SignBoard();
        Check.due("end(0) of an empty tape", b.end(0), true);
        Check.due("end(1) of an empty tape", b.end(1), false);
        Check.due("end(-1)", b.end(-1), false);
        for (int i = 1; i <= 20; i++) {
            Check.due("feed " + i, b.feed(0x20202020, 0x20202020, 0x20202020, 0x20202020, 0x20202020), 20 * i);
        }
        Check.due("feed beyond 400", b.feed(0, 0, 0, 0, 0), SignBoard.NONE);
        Check.due("end(401)", b.end(401), false);
        Check.due("end(400)", b.end(400), true);
        Check.due("end(Integer.MIN_VALUE)", b.end(Integer.MIN_VALUE), false);
        Check.due("end(381)", b.end(381), true);
        Check.due("feed at 381", b.feed(0, 0, 0, 0, 0), SignBoard.NONE);
        Check.due("end(380)", b.end(380), true);
        Check.due("feed at 380", b.feed(-1, -1, -1, -1, -1), 400);
        Check.dueThrow("shop of blanks and 255", IllegalArgumentException.class, b::shop);
        Check.due("fault of blanks and 255", b.fault(), 380);
        Check.due("the tape is used up", b.feed(0, 0, 0, 0, 0), 20);
        // of each number the highest byte comes first: "cap 7   " with a wrong byte 16 behind it
        b.end(0);
        b.feed(0x63617020, 0x37202020, 0x20202020, 0x20202020, 0x80202020);
        Check.dueThrow("shop with byte 128", IllegalArgumentException.class, b::shop);
        Check.due("fault of byte 128", b.fault(), 16);
        b.feed(0x63617020, 0x37202020, 0x20202020, 0x20202020, 0x80202020);
        b.end(16);
        Check.due("shop of cap 7", b.shop(), 1);
        Check.due("cap", b.count(4), 7);
    }

    private static void rightShopTexts() {
        SignBoard b = new SignBoard();
        Check.due("fault ahead of any", b.fault(), SignBoard.NONE);
        Check.tape(b, "     ");
        Check.due("shop of blanks", b.shop(), 1);
        Check.tape(b, " sign slant  wide12left98765right00000 ;board10margin0 ; cap 099;colour 1 ");
        Check.due("shop with few blanks and many", b.shop(), 2);
        Check.due("fault of a right text", b.fault(), SignBoard.NONE);
        Check.due("width", b.sign(0, 1), 12);
        Check.due("left of row 0", b.side(0, 0, false), 9);
        Check.due("left of row 4", b.side(0, 4, false), 5);
        Check.due("long", b.count(2), 10);
        Check.due("margin", b.count(3), 0);
        Check.due("cap", b.count(4), 99);
        Check.due("contrast", b.count(6), 1);
        Check.tape(b, SIGN + ";word 0 1 001 000;" + SIGN + ";word 2;board 120 margin 9;colour 99;cap 1");
        Check.due("shop of two words", b.shop(), 3);
        Check.due("the latter word stands", b.count(1), 1);
        Check.due("its letter", b.letter(0, 0), 2);
        Check.due("long", b.count(2), 120);
        Check.tape(b, "writer white 0 slip 0;writer white 999 slip 100;looker 0;looker 200");
        Check.due("shop of writers and lookers", b.shop(), 4);
        Check.due("writers", b.count(7), 2);
        Check.due("lookers", b.count(8), 2);
        // a word begins anew, but days, log and shadow stay
        Check.shop(b, "word 0 1 2");
        b.shadow(4);
        b.shift(1, 9);
        b.squeezed(0, 2);
        b.paint(1);
        Check.shop(b, "word 0 1 2");
        Check.due("distance of a new word", b.gap(1, 0), 3);
        Check.due("squeeze of a new word", b.letter(0, 1), 0);
        Check.due("day of a new word", b.letter(0, 4), SignBoard.NONE);
        Check.due("painted of a new word", b.count(13), 0);
        Check.due("days stay", b.count(11), 1);
        Check.due("the log stays", b.count(14), 1);
        Check.due("the shadow stays", b.count(5), 4);
        Check.due("nothing is wet", b.order(0), 0);
        Check.shop(b, "cap 5");
        Check.due("a text without a word leaves it", b.count(1), 3);
    }

    private static void wrongSigns() {
        SignBoard b = new SignBoard();
        Check.wrongShop(b, "sign ", 5);
        Check.wrongShop(b, "signs", 0);
        Check.wrongShop(b, "sign openwide 5", 5);
        Check.wrongShop(b, "sign 5", 5);
        Check.wrongShop(b, "sign open", 9);
        Check.wrongShop(b, "sign open wide", 14);
        Check.wrongShop(b, "sign open wide 1", 15);
        Check.wrongShop(b, "sign open wide 13", 15);
        Check.wrongShop(b, "sign open wide 0005", 15);
        Check.wrongShop(b, "sign open wide x", 15);
        Check.wrongShop(b, "sign open wide 5 right 00000", 17);
        Check.wrongShop(b, "sign open wide 5 left 00000", 27);
        Check.wrongShop(b, "sign open wide 5 left 0000", 22);
        Check.wrongShop(b, "sign open wide 5 left 000000 ", 22);
        Check.wrongShop(b, "sign open wide 5 left 000 00", 22);
        Check.wrongShop(b, "sign open wide 5 left 00000 right", 33);
        Check.wrongShop(b, "sign open wide 5 left 00000 right 0000a", 34);
        Check.wrongShop(b, "sign open wide 5 left 00020 right 00030", 34);
        Check.wrongShop(b, "sign open wide 5 left 00050 right 00000", 34);
        Check.wrongShop(b, "sign open wide 5 left 00020 right 00020 wide", 40);
        Check.due("no sign stayed", b.count(0), 0);
        Check.shop(b, "sign open wide 5 left 00020 right 00020");
        Check.due("a sign stays", b.count(0), 1);
    }

    private static void wrongLines() {
        SignBoard b = new SignBoard();
        Check.wrongShop(b, ";", 0);
        Check.wrongShop(b, "  x", 2);
        Check.wrongShop(b, "Cap 5", 0);
        Check.wrongShop(b, "capz 5", 0);
        Check.wrongShop(b, "acap 5", 0);
        Check.wrongShop(b, "cap{ 5", 3);
        Check.wrongShop(b, "cap` 5", 3);
        Check.wrongShop(b, "cap /5", 4);
        Check.wrongShop(b, "cap 5:", 5);
        Check.wrongShop(b, "cap", 3);
        Check.wrongShop(b, "cap -5", 4);
        Check.wrongShop(b, "cap 100", 4);
        Check.wrongShop(b, "cap 5 5", 6);
        Check.wrongShop(b, "cap 5;;", 6);
        Check.wrongShop(b, "cap 5;  ", 8);
        Check.wrongShop(b, "cap 5 cap 5", 6);
        Check.wrongShop(b, "board 9 margin 2", 6);
        Check.wrongShop(b, "board 121 margin 2", 6);
        Check.wrongShop(b, "board 20 ", 9);
        Check.wrongShop(b, "board 20 rand 2", 9);
        Check.wrongShop(b, "board 20 margin 10", 16);
        Check.wrongShop(b, "colour 0", 7);
        Check.wrongShop(b, "colour 100", 7);
        Check.wrongShop(b, "looker 201", 7);
        Check.wrongShop(b, "looker", 6);
        Check.wrongShop(b, "writer 5", 7);
        Check.wrongShop(b, "writer white 0999 slip 5", 13);
        Check.wrongShop(b, "writer white 999 slop 5", 17);
        Check.wrongShop(b, "writer white 999 slip 101", 22);
        Check.wrongShop(b, "word", 4);
        Check.wrongShop(b, "word 0", 5);
        Check.wrongShop(b, SIGN + ";word 1", 45);
        Check.wrongShop(b, SIGN + ";word 0 0 1 0", 49);
        Check.wrongShop(b, SIGN + ";word 0 0000", 47);
        Check.wrongShop(b, SIGN + ";word 0 x", 47);
        Check.wrongShop(b, "cap 5\t", 5);
        Check.due("of a wrong text nothing stays: texts", b.count(9), 0);
        Check.due("of a wrong text nothing stays: cap", b.count(4), 12);
        Check.due("of a wrong text nothing stays: long", b.count(2), 60);
        Check.due("of a wrong text nothing stays: lookers", b.count(8), 0);
    }

    private static void tooMany() {
        SignBoard b = new SignBoard();
        String sign = "sign open wide 2 left 00000 right 00000;";
        for (int i = 0; i < 3; i++) {
            Check.shop(b, sign + sign + sign + "cap 5");
        }
        Check.wrongShop(b, sign + sign + sign + SIGN + ";cap 5", 120);
        Check.wrongShop(b, sign + sign + sign + " sign x", 121);
        Check.shop(b, sign + sign + SIGN);
        Check.due("twelve signs", b.count(0), 12);
        Check.wrongShop(b, SIGN, 0);
        Check.shop(b, "word 11" + " 0".repeat(13));
        Check.due("fourteen letters", b.count(1), 14);
        Check.wrongShop(b, "word" + " 0".repeat(15), 33);
        Check.wrongShop(b, "word" + " 0".repeat(14) + " 99", 33);
        Check.shop(b, "looker 1" + ";looker 1".repeat(7));
        Check.wrongShop(b, " looker 1", 1);
        String writer = "writer white 1 slip 1";
        Check.shop(b, writer + (";" + writer).repeat(5));
        Check.due("six writers", b.count(7), 6);
        Check.wrongShop(b, writer, 0);
        Check.shop(b, "cap 5" + ";cap 5".repeat(13));
        Check.wrongShop(b, "cap 5" + ";cap 5".repeat(14), 84);
        Check.wrongShop(b, "cap 5;".repeat(14), 84);
        Check.wrongShop(b, "cap 5;".repeat(14) + "  ", 86);
        Check.wrongShop(b, "cap 5;".repeat(14) + " ;", 85);
    }

    private static void refusedTexts() {
        SignBoard b = new SignBoard();
        for (int i = 1; i <= 12; i++) {
            Check.tape(b, i % 2 == 0 ? "" : "cap 5");
            Check.due("text " + i, b.shop(), i);
        }
        Check.wrongShop(b, "cap 0", 4);
        Check.tape(b, "cap 7");
        Check.dueThrow("a 13th text", UnsupportedOperationException.class, b::shop);
        Check.due("a refused text is read", b.fault(), SignBoard.NONE);
        Check.due("a refused text is used up", b.end(1), false);
        Check.due("a refused text does nothing", b.count(4), 5);
        Check.due("texts", b.count(9), 12);
    }

    private static void rightLaws() {
        SignBoard b = Check.board("sign straight wide 9 left 01234 right 43210;sign round wide 9 left 11111 right 00000;"
                + "sign slant wide 3 left 00000 right 00000;sign open wide 3 left 00000 right 00000;word 0 1 2 3 0 0");
        Check.due("lines without a text", b.count(10), SignBoard.NONE);
        Check.due("weight without a text", b.row(0, 0, true), 1);
        Check.due("fades without a text", b.fades(5, 5), 0);
        Check.tape(b, " ");
        Check.due("a law of no line", b.law(), 0);
        Check.due("weight by no line", b.row(0, 0, true), 0);
        weigh(b, "weigh 5", 5, 0, 0);
        weigh(b, "weigh 9;fade 99;weigh 9", 18, 0, 0);
        weigh(b, "weigh 2 if row > 1;weigh 3 if row<3", 5, 0, 2);
        weigh(b, "weigh 2 if row > 1;weigh 3 if row<3", 3, 0, 1);
        weigh(b, "weigh 2 if row > 1;weigh 3 if row<3", 2, 0, 3);
        weigh(b, "weigh 1 if gap > 2 and gap < 4", 1, 0, 0);
        weigh(b, "weigh 1 if gap > 3 or gap < 3", 0, 0, 0);
        weigh(b, "weigh 1 if left > 3 and left < 5", 1, 0, 0);
        weigh(b, "weigh 1 if right > 0 and right < 2", 1, 0, 0);
        weigh(b, "weigh 1 if right > 0", 0, 1, 0);
        weigh(b, "weigh 1 if left+right+row+gap+10>18", 0, 0, 1);
        weigh(b, "weigh 1 if left+right+row+gap+10>17", 1, 0, 1);
        weigh(b, "weigh 1 if light + yards > 0", 0, 0, 0);
        weigh(b, "weigh 1 if round;weigh 2 if slant;weigh 4 if open", 1, 0, 0);
        weigh(b, "weigh 1 if round;weigh 2 if slant;weigh 4 if open", 3, 1, 0);
        weigh(b, "weigh 1 if round;weigh 2 if slant;weigh 4 if open", 6, 2, 0);
        weigh(b, "weigh 1 if round;weigh 2 if slant;weigh 4 if open", 4, 3, 0);
        weigh(b, "weigh 1 if round;weigh 2 if slant;weigh 4 if open", 0, 4, 0);
        // "and" binds closer than "or", "not" closer than both
        weigh(b, "weigh 1 if round or open and slant", 1, 0, 0);
        weigh(b, "weigh 1 if (round or open) and slant", 0, 0, 0);
        weigh(b, "weigh 1 if open and slant or round", 1, 0, 0);
        weigh(b, "weigh 1 if not open and slant", 0, 0, 0);
        weigh(b, "weigh 1 if not (open and slant)", 1, 0, 0);
        weigh(b, "weigh 1 if not not round", 1, 0, 0);
        weigh(b, "weigh 1 if not row < 1", 0, 0, 0);
        Check.law(b, "fade 7;fade 20 if light < 3 and yards > 40;weigh 9;fade 1 if round or gap + row + left > 0");
        Check.due("fades(40, 2)", b.fades(40, 2), 7);
        Check.due("fades(41, 2)", b.fades(41, 2), 27);
        Check.due("fades(41, 3)", b.fades(41, 3), 7);
        Check.law(b, "fade 9 if 999 > 998;fade 90 if 1 > 1;fade 1 if 000 < 001");
        Check.due("numbers of three digits", b.fades(1, 0), 10);
    }

    private static void weigh(SignBoard b, String law, int due, int gap, int row) {
        Check.law(b, law);
        Check.due("weight of gap " + gap + " row " + row + " by '" + law + "'", b.row(gap, row, true), due);
    }

    private static void wrongLaws() {
        SignBoard b = new SignBoard();
        Check.law(b, "fade 5");
        Check.wrongLaw(b, "weight 5", 0);
        Check.wrongLaw(b, "5", 0);
        Check.wrongLaw(b, "weigh", 5);
        Check.wrongLaw(b, "weigh 10", 6);
        Check.wrongLaw(b, "fade 100", 5);
        Check.wrongLaw(b, "fade 0005", 5);
        Check.wrongLaw(b, "fade 5 when open", 7);
        Check.wrongLaw(b, "fade 5 5", 7);
        Check.wrongLaw(b, "fade 5 if ", 10);
        Check.wrongLaw(b, "fade 5 if;fade 5", 9);
        Check.wrongLaw(b, "fade 5 if straight", 10);
        Check.wrongLaw(b, "fade 5 if row", 13);
        Check.wrongLaw(b, "fade 5 if row and", 14);
        Check.wrongLaw(b, "fade 5 if row <", 15);
        Check.wrongLaw(b, "fade 5 if row < open", 16);
        Check.wrongLaw(b, "fade 5 if row < 5 < 6", 18);
        Check.wrongLaw(b, "fade 5 if row = 5", 14);
        Check.wrongLaw(b, "fade 5 if row + < 5", 16);
        Check.wrongLaw(b, "fade 5 if 1000 < 5", 10);
        Check.wrongLaw(b, "fade 5 if row < 5 +", 19);
        Check.wrongLaw(b, "fade 5 if (row + 1) < 5", 18);
        Check.wrongLaw(b, "fade 5 if (open", 15);
        Check.wrongLaw(b, "fade 5 if open)", 14);
        Check.wrongLaw(b, "fade 5 if (open;fade 5)", 15);
        Check.wrongLaw(b, "fade 5 if ()", 11);
        Check.wrongLaw(b, "fade 5 if open or", 17);
        Check.wrongLaw(b, "fade 5 if open and or open", 19);
        Check.wrongLaw(b, "fade 5 if open open", 15);
        Check.wrongLaw(b, "fade 5 if not", 13);
        Check.wrongLaw(b, "fade 5;", 7);
        Check.wrongLaw(b, "fade 5;" + "fade 5;".repeat(11) + "fade 5", 84);
        Check.wrongLaw(b, "fade 5;".repeat(12), 84);
        Check.due("the law before stays: lines", b.count(10), 1);
        Check.due("the law before stays", b.fades(1, 1), 5);
        Check.law(b, "fade 1;fade 2");
        Check.due("a law in place of the one before", b.fades(1, 1), 3);
        for (int i = 0; i < 20; i++) {
            Check.law(b, "");
        }
        Check.due("laws are no texts of the shop", b.count(9), 0);
    }

    private static void depths() {
        SignBoard b = new SignBoard();
        Check.law(b, "fade 1 if " + "not ".repeat(6) + "light > 0");
        Check.due("six nots", b.fades(1, 1), 1);
        Check.law(b, "fade 1 if " + "(".repeat(6) + "light > 0" + ")".repeat(6));
        Check.due("six brackets", b.fades(1, 1), 1);
        Check.law(b, "fade 1 if not (not (not (light > 0)))and not(not(not(light>0)or open))");
        Check.due("brackets and nots by no light", b.fades(1, 0), 1);
        Check.due("brackets and nots by light", b.fades(1, 1), 0);
        Check.wrongLaw(b, "fade 1 if " + "not ".repeat(7) + "open", 34);
        Check.wrongLaw(b, "fade 1 if " + "(".repeat(7) + "open", 16);
        Check.wrongLaw(b, "fade 1 if (not (not (not not open", 25);
        Check.wrongLaw(b, "fade 1 if not (not (not (", 25);
        Check.wrongLaw(b, "fade 1 if not(not(not((", 22);
        // a bracket that is shut is no longer deep
        Check.law(b, "fade 1 if ((((((open)))))) or not (((((light < 1)))))");
        Check.due("one behind another", b.fades(1, 1), 1);
        // the deepest stack: an or, an and and a sum at each depth
        String deep = "light > 9 or light > 0 and ";
        Check.law(b, "fade 1 if " + (deep + "(").repeat(6) + deep + "0+1+light>0+0+1" + ")".repeat(6));
        Check.due("the deepest condition", b.fades(1, 1), 1);
        Check.due("the deepest condition by no light", b.fades(1, 0), 0);
    }
}
