import java.math.BigInteger;

/** The edges of painting, draws, orders, the log, old boards and trials (promises 17, 37 to 40, 43 to 47). */
public final class EdgesOfPaintingTest {
    private static final int NONE = SignBoard.NONE;
    private static final String BAR = "sign straight wide 2 left 00000 right 00000";
    private static final int[] SEEDS = {0, 1, 2, -1, -2, 65535, 65536, 12345, -12345, 1103515245, Integer.MAX_VALUE,
        Integer.MAX_VALUE - 1, Integer.MIN_VALUE, Integer.MIN_VALUE + 1};

    public static void main(String[] args) {
        besideTheOneBefore();
        noneIsPainted();
        daysOfLetters();
        seedGoesRound();
        drawsBits16To30();
        slipRates();
        slipsOfDistances();
        slipOfTheLast();
        slipOfOneLetter();
        logOfSixty();
        slipsOfTheLog();
        logStaysBehindAWord();
        ordersOfFewAndMany();
        ordersWithAWetOne();
        brushOfTwelve();
        wroteOfFewAndMany();
        likelyWithinTen();
        trialsOfDays();
        spansOfSixSeeds();
        Check.finish();
    }

    /** Writers: 0 slips never, 1 always. */
    private static SignBoard bars(int letters) {
        return Check.board(BAR + ";writer white 9 slip 0;writer white 9 slip 100" + (letters > 0 ? ";word" : "")
                + " 0".repeat(letters));
    }

    // ---- promise 17

    private static void besideTheOneBefore() {
        int[][] orders = {{NONE, NONE}, {0, NONE, NONE}, {0, NONE, 1, NONE}, {0, 2, NONE, 1, NONE}, {0, 2, NONE, 1, 3, NONE},
            {0, 2, 4, 1, 3, NONE}, {0, 2, 4, 1, 3, 5, NONE}};
        for (int letters = 0; letters < orders.length; letters++) {
            SignBoard b = bars(letters);
            for (int day = 0; day < orders[letters].length; day++) {
                Check.due("day " + day + " of " + letters + " letters", b.paint(0), orders[letters][day]);
                Check.due("it is a day", b.count(11), day + 1);
                Check.due("it is an act", b.count(15), day + 1);
            }
            Check.due("all are painted", b.count(13), (1 << letters) - 1);
            Check.due("rows of the log", b.count(14), letters);
        }
        SignBoard b = bars(14);
        int[] most = {0, 2, 4, 1, 3, 5, 7, 9, 6, 8, 10, 12, NONE, 11, 13, NONE};
        for (int day = 0; day < most.length; day++) {
            Check.due("day " + day + " of 14 letters", b.paint(1), most[day]);
        }
        Check.due("all 14 are painted", b.count(13), (1 << 14) - 1);
    }

    private static void noneIsPainted() {
        SignBoard b = bars(2);
        b.paint(1);
        int seed = b.seed(5);
        Check.due("none is painted", b.paint(1), NONE);
        Check.due("no draw", b.seed(seed), 5);
        Check.due("a day all the same", b.count(11), 2);
        Check.due("no row of the log", b.count(14), 1);
        Check.due("behind it nothing is wet", b.paint(1), 1);
        Check.due("on day 2", b.letter(1, 4), 2);
        SignBoard none = Check.board("writer white 9 slip 100");
        Check.due("without letters", none.paint(0), NONE);
        Check.due("no draw", none.seed(1), 1);
        Check.due("a day all the same", none.count(11), 1);
        Twins.refuses("paint by no writer", Twins.INDEX, () -> taped(BAR + ";word 0"), c -> c.paint(0));
        Twins.refuses("paint by no writer, without letters", Twins.INDEX, () -> taped(""), c -> c.paint(0));
        for (int writers = 1; writers <= 6; writers++) {
            int beyond = writers;
            String text = BAR + ";word 0" + ";writer white 9 slip 0".repeat(writers);
            Twins.refuses("paint by writer " + writers, Twins.INDEX, () -> taped(text), c -> c.paint(beyond));
            SignBoard last = taped(text);
            Check.due("paint by the last writer", last.paint(writers - 1), 0);
            Check.due("the writer", last.log(0, 2), writers - 1);
        }
    }

    private static SignBoard taped(String text) {
        SignBoard b = Check.board(text);
        Check.tape(b, "cap 7");
        return b;
    }

    private static void daysOfLetters() {
        SignBoard b = bars(3);
        for (int letter = 0; letter < 3; letter++) {
            Check.due("not painted yet", b.letter(letter, 4), NONE);
        }
        b.paint(0);
        Check.due("the first day is 0", b.letter(0, 4), 0);
        Check.due("in the log, too", b.log(0, 0), 0);
        Check.due("days", b.count(11), 1);
        Check.due("painted", b.count(13), 1);
        b.paint(0);
        Check.due("day 1", b.letter(2, 4), 1);
        Check.due("painted", b.count(13), 5);
        Check.due("not painted yet", b.letter(1, 4), NONE);
    }

    // ---- promises 17, 47: SEED and DRAW

    private static int next(int seed) {
        return BigInteger.valueOf(1103515245).multiply(BigInteger.valueOf(seed)).add(BigInteger.valueOf(12345)).intValue();
    }

    private static int draw(int seed) {
        return BigInteger.valueOf(seed).and(BigInteger.valueOf(0x7fff0000L)).shiftRight(16).intValue();
    }

    private static void seedGoesRound() {
        Check.due("the seed at first", new SignBoard().seed(0), 1);
        for (int seed : SEEDS) {
            SignBoard b = bars(2);
            Check.due("the seed at first", b.seed(seed), 1);
            Check.due("seed " + seed, b.seed(seed), seed);
            Check.due("it is no act", b.count(15), 0);
            b.paint(0);
            Check.due("one draw from " + seed, b.seed(seed), next(seed));
            Check.shop(b, "word 0 0");
            b.paint(1);
            Check.due("two draws from " + seed, b.seed(seed), next(next(seed)));
        }
    }

    private static void drawsBits16To30() {
        boolean[] signs = new boolean[2];
        boolean[] ways = new boolean[2];
        for (int i = 0; i < 40; i++) {
            int seed = i < SEEDS.length ? SEEDS[i] : 7919 * i;
            int first = draw(next(seed)) % 100;
            int second = draw(next(next(seed))) % 2;
            SignBoard b = Check.board(BAR + ";word 0 0 0;writer white 9 slip " + first + ";writer white 9 slip " + (first + 1));
            b.seed(seed);
            b.paint(0);
            Check.due("no slip at just the draw of " + seed, b.gap(0, 0), 3);
            Check.due("one draw", b.seed(seed), next(seed));
            b.undo();
            b.seed(seed);
            b.paint(1);
            Check.due("a slip one above the draw of " + seed, b.gap(0, 0), second == 0 ? 2 : 4);
            Check.due("the log of it", b.log(0, 3), second == 0 ? -1 : 1);
            Check.due("two draws", b.seed(0), next(next(seed)));
            signs[next(seed) < 0 ? 0 : 1] = true;
            ways[second] = true;
        }
        Check.due("seeds above and below 0 were drawn from", signs[0] && signs[1], true);
        Check.due("less and more were drawn", ways[0] && ways[1], true);
    }

    /** A seed from which the first draw modulo 100 is as wanted. */
    private static int seedOf(int wanted) {
        int seed = 0;
        while (draw(next(seed)) % 100 != wanted) {
            seed++;
        }
        return seed;
    }

    private static void slipRates() {
        for (int slip : new int[] {0, 1, 2, 50, 98, 99, 100}) {
            for (int drawn : new int[] {0, slip - 1, slip, slip + 1, 99}) {
                if (drawn >= 0 && drawn < 100) {
                    SignBoard b = Check.board(BAR + ";word 0 0;writer white 9 slip " + slip);
                    b.seed(seedOf(drawn));
                    b.paint(0);
                    Check.due("draw " + drawn + " by slip " + slip, b.gap(0, 0) != 3, drawn < slip);
                    Check.due("slips", b.slips(0), drawn < slip ? 1 : 0);
                }
            }
        }
    }

    /** A seed from which a slip (of a writer that always slips) is one less, or one more. */
    private static int seedOfWay(int way) {
        int seed = 0;
        while (draw(next(next(seed))) % 2 != way) {
            seed++;
        }
        return seed;
    }

    private static void slipsOfDistances() {
        int[][] due = {{0, 0, 0}, {1, 0, 0}, {2, 0, 1}, {0, 1, 1}, {30, 1, 30}, {29, 1, 30}, {28, 1, 29}, {30, 0, 29}};
        for (int[] d : due) {
            SignBoard b = bars(3);
            b.shift(0, d[0]);
            b.shift(1, 7);
            b.seed(seedOfWay(d[1]));
            b.paint(1);
            Check.due("a slip of " + d[0] + (d[1] == 0 ? " less" : " more"), b.gap(0, 0), d[2]);
            Check.due("by how much", b.log(0, 3), d[2] - d[0]);
            Check.due("it counts as a slip where it changed", b.slips(NONE), d[2] == d[0] ? 0 : 1);
            Check.due("two draws all the same", b.seed(0), next(next(seedOfWay(d[1]))));
            Check.due("the other distance stays", b.gap(1, 0), 7);
        }
    }

    private static void slipOfTheLast() {
        for (int letters : new int[] {2, 3, 14}) {
            SignBoard b = bars(letters);
            int last = letters - 1;
            while (b.paint(0) != last) {
                Check.due("the last is not painted yet", b.letter(last, 4), NONE);
            }
            b.undo();
            b.seed(seedOfWay(1));
            Check.due("the last", b.paint(1), last);
            Check.due("its slip is ahead of it", b.gap(last - 1, 0), 4);
            for (int gap = 0; gap < last - 1; gap++) {
                Check.due("no other", b.gap(gap, 0), 3);
            }
            SignBoard c = bars(letters);
            c.seed(seedOfWay(1));
            Check.due("the first", c.paint(1), 0);
            Check.due("its slip is behind it", c.gap(0, 0), 4);
        }
    }

    private static void slipOfOneLetter() {
        SignBoard b = bars(1);
        b.seed(5);
        Check.due("paint", b.paint(1), 0);
        Check.due("no draw more", b.seed(0), next(5));
        Check.due("no change", b.log(0, 3), 0);
        Check.due("no slip", b.slips(NONE), 0);
        Check.due("a row all the same", b.count(14), 1);
    }

    // ---- promises 45, 46

    /** So many rows of the log: words of 6 letters, painted as 0, 2, 4, 1, 3, 5 without a day between. */
    private static SignBoard logged(int rows) {
        SignBoard b = bars(1);
        for (int row = 0; row < rows; row++) {
            if (row % 6 == 0) {
                Check.shop(b, "word 0 0 0 0 0 0");
            }
            // the first three rows are slips
            b.shift(0, 15);
            b.paint(row < 3 ? 1 : 0);
        }
        return b;
    }

    private static void logOfSixty() {
        int[] order = {0, 2, 4, 1, 3, 5};
        for (int rows : new int[] {0, 1, 2, 59, 60, 61, 62, 63, 64}) {
            SignBoard b = logged(rows);
            int there = Math.min(60, rows);
            Check.due("rows of " + rows, b.count(14), there);
            Check.due("days go on", b.count(11), rows);
            for (int what = 0; what < 4; what++) {
                Check.due("none beyond " + there, b.log(there, what), -99);
                Check.due("none ahead", b.log(-1, what), -99);
            }
            if (rows > 0) {
                Check.due("the latest of " + rows, b.log(0, 0), rows - 1);
                Check.due("the earliest of " + rows, b.log(there - 1, 0), rows - there);
                Check.due("its letter", b.log(there - 1, 1), order[(rows - there) % 6]);
                Check.due("the latest letter", b.log(0, 1), order[(rows - 1) % 6]);
                Check.due("the latest writer", b.log(0, 2), rows > 3 ? 0 : 1);
                Check.due("the latest change", Math.abs(b.log(0, 3)), rows > 3 ? 0 : 1);
            }
        }
    }

    private static void slipsOfTheLog() {
        int[][] due = {{0, 0}, {1, 1}, {2, 2}, {3, 3}, {4, 3}, {60, 3}, {61, 2}, {62, 1}, {63, 0}, {64, 0}};
        for (int[] d : due) {
            SignBoard b = logged(d[0]);
            Check.due("slips of all in " + d[0], b.slips(NONE), d[1]);
            Check.due("slips of writer 1 in " + d[0], b.slips(1), d[1]);
            Check.due("slips of writer 0 in " + d[0], b.slips(0), 0);
            Check.dueThrow("slips of writer 2", Twins.INDEX, () -> b.slips(2));
            Check.dueThrow("slips of writer -2", Twins.INDEX, () -> b.slips(-2));
        }
        SignBoard none = new SignBoard();
        Check.due("slips without writers", none.slips(NONE), 0);
        Check.dueThrow("slips of writer 0 of none", Twins.INDEX, () -> none.slips(0));
    }

    private static void logStaysBehindAWord() {
        SignBoard b = bars(14);
        b.paint(0);
        b.paint(1);
        Check.shop(b, "word 0");
        Check.due("the log stays", b.count(14), 2);
        Check.due("a letter that is no more", b.log(0, 1), 2);
        Check.due("slips", b.slips(NONE), 1);
        b.paint(0);
        Check.due("the day goes on", b.log(0, 0), 2);
        b.undo();
        Check.due("undone", b.count(14), 2);
        Check.due("the latest then", b.log(0, 0), 1);
    }

    // ---- promises 37, 38

    private static void ordersOfFewAndMany() {
        int[] days = {0, 1, 3, 4, 5, 5, 6, 8, 9, 10, 10, 11, 13, 14, 15};
        int[] fewest = {0, 1, 3, 4, 4, 5, 6, 7, 8, 9, 10, 11, 12, -3, -3};
        for (int letters = 0; letters <= 14; letters++) {
            SignBoard b = bars(letters);
            Check.due("days for " + letters, b.order(NONE), days[letters]);
            Check.due("fewest days for " + letters, b.brush(), fewest[letters]);
            int painted = 0;
            for (int day = 0; day < days[letters]; day++) {
                int letter = b.order(day);
                painted |= letter == NONE ? 0 : 1 << letter;
            }
            Check.due("all of them", painted, (1 << letters) - 1);
            Check.due("the last day is none without a letter", letters > 0 && b.order(days[letters] - 1) == NONE, false);
            Check.due("the day behind the last", b.order(days[letters]), NONE);
            Check.due("two days behind", b.order(days[letters] + 1), NONE);
            Check.due("two days ago", b.order(-2), NONE);
            for (int day = 0; day < days[letters]; day++) {
                Check.due("the order is what is painted", b.order(0), b.paint(0));
                Check.due("one day fewer", b.order(NONE), days[letters] - day - 1);
            }
            Check.due("nothing is left", b.brush(), 0);
        }
    }

    private static void ordersWithAWetOne() {
        SignBoard b = bars(3);
        b.paint(0);
        Check.due("behind 0: 2, none, 1", b.order(NONE), 3);
        Check.due("the first", b.order(0), 2);
        Check.due("the second", b.order(1), NONE);
        Check.due("the third", b.order(2), 1);
        Check.due("the fourth", b.order(3), NONE);
        b.paint(0);
        Check.due("behind 2: none, 1", b.order(NONE), 2);
        Check.due("yesterday's is wet", b.brush(), 2);
        b.paint(0);
        Check.due("behind none: 1", b.order(NONE), 1);
        Check.due("nothing is wet", b.brush(), 1);
        Check.due("the first", b.order(0), 1);
        b.paint(0);
        Check.due("all", b.order(NONE), 0);
        Check.due("the first", b.order(0), NONE);
    }

    private static void brushOfTwelve() {
        for (int letters : new int[] {12, 13, 14}) {
            SignBoard b = bars(letters);
            for (int left = letters; left > 11; left--) {
                Check.due(left + " are not painted yet", b.brush(), left > 12 ? -3 : left);
                b.paint(0);
            }
            Check.due("11 are not painted yet", b.brush(), 11);
        }
        SignBoard b = bars(13);
        b.paint(0);
        b.undo();
        Check.due("13 again", b.brush(), -3);
    }

    // ---- promises 39, 40

    private static int wrote(SignBoard b, int... whites) {
        Check.whites(b, whites);
        int wrote = b.wrote();
        Check.due("wrote() uses the tape up", b.end(1), false);
        return wrote;
    }

    private static void wroteOfFewAndMany() {
        SignBoard none = new SignBoard();
        Check.due("no writer, no white", wrote(none), NONE);
        Check.due("no writer", wrote(none, 5), NONE);
        SignBoard b = Check.board("writer white 10 slip 0;writer white 20 slip 0;writer white 10 slip 100;"
                + "writer white 0 slip 0;writer white 999 slip 0;writer white 999 slip 0");
        Check.due("no white: of several the least", wrote(b), 0);
        int[][] due = {{10, 0}, {14, 0}, {15, 0}, {16, 1}, {20, 1}, {4, 3}, {5, 0}, {6, 0}, {509, 1}, {510, 4}, {999, 4},
            {2000, 4}, {2001, 4}, {32767, 4}, {32768, 4}, {65535, 4}, {0, 3}};
        for (int[] d : due) {
            Check.due("wrote of " + d[0], wrote(b, d[0]), d[1]);
        }
        Check.due("all of these together", wrote(b, 15, 15), 0);
        Check.due("all of these together", wrote(b, 15, 16), 1);
        Check.due("all of these together", wrote(b, 0, 30, 16), 1);
        int[] many = new int[200];
        Check.due("a full tape", wrote(b, many), 3);
        many[199] = 65535;
        many[0] = 2000;
        Check.due("a full tape, the last", wrote(b, many), 3);
        Check.due("as far off as can be", wrote(b, filled(200, 65535)), 4);
        for (int bytes : new int[] {1, 3, 399}) {
            Check.tape(b, new byte[bytes]);
            Check.dueThrow("wrote of " + bytes, Twins.ARGUMENT, b::wrote);
            Check.due("the tape is used up", b.end(1), false);
        }
    }

    private static int[] filled(int size, int n) {
        int[] all = new int[size];
        java.util.Arrays.fill(all, n);
        return all;
    }

    private static int likely(SignBoard b, int writer, int... whites) {
        Check.whites(b, whites);
        int likely = b.likely(writer);
        Check.due("likely() uses the tape up", b.end(1), false);
        return likely;
    }

    private static void likelyWithinTen() {
        SignBoard b = Check.board("writer white 0 slip 0;writer white 1 slip 0;writer white 10 slip 0;writer white 500 slip 0;"
                + "writer white 998 slip 0;writer white 999 slip 0");
        int[] aims = {0, 1, 10, 500, 998, 999};
        for (int writer = 0; writer < 6; writer++) {
            for (int away = -12; away <= 12; away++) {
                int white = aims[writer] + away;
                if (white >= 0) {
                    int due = away >= -10 && away <= 10 ? 1 : 0;
                    Check.due(white + " is likely of " + aims[writer], likely(b, writer, white), due);
                }
            }
            Check.due("none told", likely(b, writer), 0);
            Check.due("a full tape", likely(b, writer, filled(200, aims[writer])), 200);
            Check.due("far off", likely(b, writer, 65535, 32768, 2000, 1010), 0);
        }
    }

    // ---- promises 43, 44

    private static void trialsOfDays() {
        int[] painted = {0, 1, 2, 2, 3, 3, 3};
        for (int days = 0; days < painted.length; days++) {
            Check.due("painted in " + days, bars(3).trial(0, days, true), painted[days]);
        }
        Check.due("painted in 40", bars(14).trial(0, 40, true), 14);
        Check.due("painted in 15", bars(14).trial(0, 15, true), 14);
        Check.due("painted in 14", bars(14).trial(0, 14, true), 13);
        Check.due("painted without letters", bars(0).trial(1, 40, true), 0);
        Check.due("uneven without letters", bars(0).trial(1, 40, false), 0);
        for (int letters : new int[] {1, 2, 3, 14}) {
            for (int days : new int[] {0, 1, 2, 39, 40}) {
                SignBoard tried = bars(letters);
                SignBoard done = bars(letters);
                tried.paint(1);
                done.paint(1);
                for (int day = 0; day < days; day++) {
                    done.paint(1);
                }
                Check.due("uneven of " + letters + " in " + days, tried.trial(1, days, false), done.uneven());
                Check.due("painted of " + letters + " in " + days, tried.trial(1, days, true), Integer.bitCount(done.count(13)));
                Check.due("nothing stays", tried.count(11), 1);
                Check.due("nothing stays", tried.count(15), 1);
            }
        }
    }

    /** The seeds are 1 to 6: each of them counts, and 0 and 7, which would tell otherwise at times, do not. */
    private static void spansOfSixSeeds() {
        boolean[] counts = new boolean[8];
        for (int slip = 0; slip <= 100; slip++) {
            for (int letters : new int[] {2, 3, 6}) {
                String text = BAR + ";writer white 9 slip 0;writer white 9 slip " + slip + ";word" + " 0".repeat(letters);
                for (int days : new int[] {0, 1, 2, 40}) {
                    spanOfSixSeeds(Check.board(text), days, counts);
                }
            }
        }
        for (int seed = 0; seed < 8; seed++) {
            Check.due("by seed " + seed + " it is told otherwise at times", counts[seed], true);
        }
        Check.due("span without letters", bars(0).span(0, 40, true), 0);
        Check.due("span without letters", bars(0).span(0, 40, false), 0);
    }

    private static void spanOfSixSeeds(SignBoard b, int days, boolean[] counts) {
        int[] uneven = new int[8];
        for (int seed = 0; seed < 8; seed++) {
            b.seed(seed);
            uneven[seed] = b.trial(1, days, false);
        }
        int least = least(uneven, NONE);
        int most = most(uneven, NONE);
        Check.due("the least in " + days, b.span(1, days, false), least);
        Check.due("the greatest in " + days, b.span(1, days, true), most);
        Check.due("the seed stays", b.seed(1), 7);
        for (int seed = 1; seed < 7; seed++) {
            counts[seed] |= least(uneven, seed) != least || most(uneven, seed) != most;
        }
        counts[0] |= uneven[0] < least || uneven[0] > most;
        counts[7] |= uneven[7] < least || uneven[7] > most;
    }

    private static int least(int[] uneven, int without) {
        int least = Integer.MAX_VALUE;
        for (int seed = 1; seed <= 6; seed++) {
            least = seed == without ? least : Math.min(least, uneven[seed]);
        }
        return least;
    }

    private static int most(int[] uneven, int without) {
        int most = 0;
        for (int seed = 1; seed <= 6; seed++) {
            most = seed == without ? most : Math.max(most, uneven[seed]);
        }
        return most;
    }
}
