import java.nio.charset.StandardCharsets;

/** What the tests share: answers are held against what is due, and what is wrong is printed. */
final class Check {
    interface Call {
        long answer();
    }

    private static int checks = 0;
    private static int wrong = 0;

    private Check() {
    }

    static void due(String what, long got, long want) {
        checks++;
        if (got != want) {
            wrong++;
            System.out.println(what + " answered " + got + ", due is " + want);
        }
    }

    static void due(String what, boolean got, boolean want) {
        due(what, got ? 1 : 0, want ? 1 : 0);
    }

    static void dueThrow(String what, Class<? extends RuntimeException> want, Call call) {
        checks++;
        String got;
        try {
            got = "answered " + call.answer();
        } catch (RuntimeException e) {
            if (e.getClass() == want) {
                return;
            }
            got = "threw " + e;
        }
        wrong++;
        System.out.println(what + " " + got + ", due is " + want.getName());
    }

    /** Puts a text on an empty tape. */
    static void tape(SignBoard board, String text) {
        tape(board, text.getBytes(StandardCharsets.ISO_8859_1));
    }

    static void tape(SignBoard board, byte[] bytes) {
        board.end(0);
        int[] n = new int[5];
        for (int at = 0; at < bytes.length; at += 20) {
            for (int i = 0; i < 5; i++) {
                n[i] = 0;
                for (int k = 0; k < 4; k++) {
                    int place = at + 4 * i + k;
                    n[i] = n[i] << 8 | (place < bytes.length ? bytes[place] & 255 : 0);
                }
            }
            board.feed(n[0], n[1], n[2], n[3], n[4]);
        }
        board.end(bytes.length);
    }

    /** A tape of whites, two bytes each. */
    static void whites(SignBoard board, int... whites) {
        byte[] bytes = new byte[2 * whites.length];
        for (int i = 0; i < whites.length; i++) {
            bytes[2 * i] = (byte) (whites[i] >> 8);
            bytes[2 * i + 1] = (byte) whites[i];
        }
        tape(board, bytes);
    }

    static void shop(SignBoard board, String text) {
        tape(board, text);
        board.shop();
    }

    static void law(SignBoard board, String text) {
        tape(board, text);
        board.law();
    }

    static SignBoard board(String... shopTexts) {
        SignBoard board = new SignBoard();
        for (String text : shopTexts) {
            shop(board, text);
        }
        return board;
    }

    static void wrongShop(SignBoard board, String text, int fault) {
        tape(board, text);
        dueThrow("shop of '" + text + "'", IllegalArgumentException.class, board::shop);
        due("fault of '" + text + "'", board.fault(), fault);
        due("end(1) behind '" + text + "'", board.end(1), false);
    }

    static void wrongLaw(SignBoard board, String text, int fault) {
        tape(board, text);
        dueThrow("law of '" + text + "'", IllegalArgumentException.class, board::law);
        due("fault of '" + text + "'", board.fault(), fault);
        due("end(1) behind '" + text + "'", board.end(1), false);
    }

    static void finish() {
        System.out.println(wrong == 0 ? checks + " answers are as due" : wrong + " answers are not as due");
        if (wrong != 0 || checks == 0) {
            System.exit(1);
        }
    }
}
