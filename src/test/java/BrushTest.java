/** Every state that painting can reach, of words of every length: the program's closed answer against a search. */
public final class BrushTest {
    public static void main(String[] args) {
        for (int letters = 1; letters <= 14; letters++) {
            SignBoard board = Check.board("sign open wide 2 left 00000 right 00000;writer white 1 slip 0");
            Check.shop(board, "word" + " 0".repeat(letters));
            int wet = SignBoard.NONE;
            for (int day = 0; day < 34; day++) {
                int left = (1 << letters) - 1 - board.count(13);
                int due = Integer.bitCount(left) > 12 ? -3 : Model.search(left, wet);
                Check.due("brush() on day " + day + " of " + letters + " letters", board.brush(), due);
                wet = board.paint(0);
            }
            Check.due("all of " + letters + " are painted", board.count(13), (1 << letters) - 1);
        }
        Check.finish();
    }
}
