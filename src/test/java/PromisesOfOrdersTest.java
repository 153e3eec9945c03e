/** Promises 21 to 28: orders of letters, votes, first letters, marriages, books that are told. */
public final class PromisesOfOrdersTest {
    private static final Checks CHECKS = new Checks();
    private static final String FOUR = "ba5;ab4;a9;bad3";

    public static void main(String[] args) {
        fewestDry();
        liked();
        goingRound();
        voted();
        swayed();
        initials();
        matched();
        linesStruck();
        CHECKS.close();
    }

    private static void fewestDry() {
        String[] houses = {FOUR, "a9;b9;c1;d1", "a9;b9;c1;d1", "c9;d9;e1;f1", "a9;c1;e1", "", "a1;a9", "ab9;aa1",
            "h1;g1;f1;e1;d1;c1;b1;a9", "ab9;ac1;cb1;bc1"};
        String[] rules = {"", "10", "2", "2", "2", "0", "0", "1", "7", "3"};
        int[] due = {1, 2, 2, 2, 1, 0, 2, 1, 1, 1};
        int[][] rows = {{0, 1, 2, 3, 4, 5, 6, 7}, {0, 2, 1, 3, 4, 5, 6, 7}, {2, 3, 0, 1, 4, 5, 6, 7},
            {0, 1, 4, 5, 2, 3, 6, 7}, {1, 2, 3, 4, 0, 5, 6, 7}, {0, 1, 2, 3, 4, 5, 6, 7}, {0, 1, 2, 3, 4, 5, 6, 7},
            {0, 1, 2, 3, 4, 5, 6, 7}, {1, 2, 3, 4, 5, 6, 7, 0}, {2, 1, 0, 3, 4, 5, 6, 7}};
        for (int i = 0; i < houses.length; i++) {
            WaterByLetters w = Checks.townWithRule(houses[i], rules[i]);
            String what = "fewest() of " + houses[i] + " by " + rules[i];
            CHECKS.due(21, what, w.fewest(), due[i]);
            order(21, what, w, rows[i]);
            CHECKS.due(21, "count(6)", w.count(6), 0);
            CHECKS.due(21, "count(9)", w.count(9), 0);
        }
    }

    private static void order(int promise, String what, WaterByLetters w, int... due) {
        long[] row = new long[due.length];
        for (int i = 0; i < due.length; i++) {
            row[i] = due[i];
        }
        CHECKS.row(promise, what, w, row);
    }

    private static void liked() {
        WaterByLetters w = Checks.town(FOUR);
        CHECKS.due(22, "likes(3)", w.likes(3), 1);
        order(22, "likes(3)", w, 1, 0, 2, 3, 4, 5, 6, 7);
        CHECKS.due(22, "likes(0)", w.likes(0), 0);
        order(22, "likes(0)", w, 1, 0, 2, 3, 4, 5, 6, 7);
        CHECKS.due(22, "likes(4)", w.likes(4), -1);
        CHECKS.due(22, "likes(-1)", w.likes(-1), -1);
        order(22, "refused", w, 1, 0, 2, 3, 4, 5, 6, 7);
        CHECKS.due(22, "likes(2)", w.likes(2), 0);
        order(22, "likes(2)", w, 0, 1, 2, 3, 4, 5, 6, 7);
        w = Checks.town("ab1;ba1;aa1");
        CHECKS.due(22, "either or", w.likes(0), 1);
        order(22, "either or", w, 0, 1, 2, 3, 4, 5, 6, 7);
        w = Checks.town("db1;bd1;dd1;c1;da1");
        CHECKS.due(22, "d ahead of b, c; b ahead of d, a", w.likes(0), 1);
        order(22, "d ahead of b, c; b ahead of d, a", w, 1, 0, 3, 2, 4, 5, 6, 7);
        w = Checks.town("a1;a1");
        CHECKS.due(22, "like names", w.likes(1), 1);
        w = Checks.town("ha1;hb1;g1;hc1");
        CHECKS.due(22, "h ahead of g, c ahead of a, b", w.likes(3), 0);
        order(22, "h ahead of g, c ahead of a, b", w, 2, 0, 1, 3, 4, 5, 7, 6);
    }

    private static void goingRound() {
        WaterByLetters w = Checks.town(FOUR);
        CHECKS.due(23, "rounds(1)", w.rounds(1), 1);
        CHECKS.row(23, "rounds(1)", w, 1, 0);
        CHECKS.due(23, "rounds(2)", w.rounds(2), 2);
        CHECKS.row(23, "rounds(2)", w, 1, 0);
        CHECKS.due(23, "rounds(8)", w.rounds(8), 8);
        CHECKS.row(23, "rounds(8)", w, 7, 0);
        CHECKS.due(23, "rounds(0)", w.rounds(0), -1);
        CHECKS.due(23, "rounds(61)", w.rounds(61), -1);
        CHECKS.row(23, "refused", w, 7, 0);
        Checks.text(w, "0").rule();
        CHECKS.due(23, "rounds(60)", w.rounds(60), 240);
        CHECKS.row(23, "rounds(60)", w, 60, 60);
        CHECKS.due(23, "count(1)", w.count(1), 0);
        CHECKS.due(23, "count(4)", w.count(4), 0);
        CHECKS.due(23, "count(6)", w.count(6), 0);
        w.days(1);
        w.rounds(2);
        CHECKS.row(23, "only the next ones count", w, 2, 2);
        WaterByLetters none = new WaterByLetters();
        CHECKS.due(23, "without houses", none.rounds(5), 0);
        CHECKS.row(23, "without houses", none, 0, 0);
    }

    private static void voted() {
        WaterByLetters w = Checks.town(FOUR);
        CHECKS.due(24, "bacdefgh", Checks.text(w, "bacdefgh").votes(), 2);
        CHECKS.row(24, "bacdefgh", w, 9, 6);
        CHECKS.due(24, "count(11)", w.count(11), 0);
        faults(24, w, true);
        CHECKS.row(24, "refused", w, 9, 6);
        CHECKS.due(24, "abcdefgh", Checks.text(w, "abcdefgh").votes(), 0);
        CHECKS.row(24, "abcdefgh", w, 0, 0);
        CHECKS.due(24, "count(6)", w.count(6), 0);
        CHECKS.due(24, "count(9)", w.count(9), 0);
    }

    private static void faults(int promise, WaterByLetters w, boolean votes) {
        String[] texts = {"", "a", "abcdefghi", "aa", "x", "abcdefg", "hgfedcbaa"};
        int[] faults = {0, 1, 8, 1, 0, 7, 8};
        for (int i = 0; i < texts.length; i++) {
            Checks.text(w, texts[i]);
            CHECKS.due(promise, texts[i], votes ? w.votes() : w.sways(), -10000 - faults[i]);
            CHECKS.due(promise, "count(11)", w.count(11), 0);
        }
    }

    private static void swayed() {
        WaterByLetters w = Checks.town(FOUR);
        CHECKS.due(25, "bacdefgh", Checks.text(w, "bacdefgh").sways(), 1);
        CHECKS.row(25, "bacdefgh", w, 2);
        CHECKS.due(25, "count(11)", w.count(11), 0);
        faults(25, w, false);
        CHECKS.row(25, "refused", w, 2);
        CHECKS.due(25, "abcdefgh", Checks.text(w, "abcdefgh").sways(), 3);
        CHECKS.row(25, "abcdefgh", w, 11);
        w = Checks.town("a1;b1;c1;d1");
        CHECKS.due(25, "like thirsts", Checks.text(w, "abcdefgh").sways(), 3);
        CHECKS.row(25, "like thirsts", w, 7);
        w = Checks.town("a1;b1;c1");
        CHECKS.due(25, "it is so", Checks.text(w, "bcadefgh").sways(), 0);
        CHECKS.row(25, "it is so", w, 0);
        w = Checks.town("b3;a2");
        CHECKS.due(25, "half is not enough", Checks.text(w, "bacdefgh").sways(), 1);
        CHECKS.row(25, "half is not enough", w, 2);
        WaterByLetters none = new WaterByLetters();
        CHECKS.due(25, "without houses", Checks.text(none, "bacdefgh").sways(), 0);
        CHECKS.row(25, "without houses", none, 0);
    }

    private static void initials() {
        WaterByLetters w = Checks.town(FOUR);
        CHECKS.due(26, "initial(3)", w.initial(3), 0);
        CHECKS.row(26, "initial(3)", w, 1);
        CHECKS.due(26, "initial(2)", w.initial(2), 0);
        CHECKS.row(26, "initial(2)", w, 0);
        Checks.text(w, "hgfedcba").order();
        CHECKS.due(26, "initial(0) by hgfedcba", w.initial(0), 1);
        CHECKS.row(26, "initial(0) by hgfedcba", w, 0);
        CHECKS.due(26, "initial(1) by hgfedcba", w.initial(1), 1);
        CHECKS.row(26, "initial(1) by hgfedcba", w, 0);
        CHECKS.due(26, "initial(4)", w.initial(4), -1);
        CHECKS.due(26, "initial(-1)", w.initial(-1), -1);
        CHECKS.row(26, "refused", w, 0);
        CHECKS.due(26, "letter(0, 0)", w.letter(0, 0), 1);
        w = Checks.town("c1;ab1;bb1");
        CHECKS.due(26, "initial(1)", w.initial(1), 0);
        CHECKS.due(26, "initial(2)", w.initial(2), 0);
        CHECKS.row(26, "initial(2)", w, 1);
    }

    private static void matched() {
        String[] houses = {FOUR, "", "a1", "a1;b1", "b1;a1", "c1;b1;a1", "a1;b1;c1;d1;e1;f1;g1;h1", "h1;g1;f1;e1;d1;c1;b1;a1",
            "a1;a1;a1"};
        int[] due = {3, 0, 0, 0, 1, 2, 12, 16, 0};
        long[][] rows = {{0, 1, 2, 3}, {}, {}, {}, {0, 1}, {0, 2}, {0, 5, 1, 6, 2, 7}, {0, 4, 1, 5, 2, 6, 3, 7}, {}};
        for (int i = 0; i < houses.length; i++) {
            WaterByLetters w = Checks.town(houses[i]);
            CHECKS.due(27, "matches() of " + houses[i], w.matches(), due[i]);
            CHECKS.row(27, "matches() of " + houses[i], w, rows[i]);
            CHECKS.due(27, "count(9)", w.count(9), 0);
        }
    }

    private static void linesStruck() {
        WaterByLetters w = Checks.town(FOUR);
        String[] texts = {"2103", "0123", "0213", "3", "", "3012", "12", "31"};
        int[] due = {0, 2, 1, 0, 0, 3, 1, 1};
        int[] rows = {0, 3, 1, 0, 0, 7, 2, 2};
        for (int i = 0; i < texts.length; i++) {
            CHECKS.due(28, "lines() " + texts[i], Checks.text(w, texts[i]).lines(), due[i]);
            CHECKS.row(28, "lines() " + texts[i], w, rows[i]);
            CHECKS.due(28, "count(11)", w.count(11), 0);
        }
        String[] wrong = {"4", "00", "0a", "01230", "0123456789", "9", "-1"};
        int[] faults = {0, 1, 1, 4, 4, 0, 0};
        for (int i = 0; i < wrong.length; i++) {
            CHECKS.due(28, "lines() " + wrong[i], Checks.text(w, wrong[i]).lines(), -1 - faults[i]);
            CHECKS.due(28, "count(11)", w.count(11), 0);
        }
        CHECKS.row(28, "refused", w, 2);
    }
}
