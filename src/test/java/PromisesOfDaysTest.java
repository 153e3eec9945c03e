/** Promises 10 to 20: the order, names, marriages, days, years, what is undone; the book of a day. */
public final class PromisesOfDaysTest {
    private static final Checks CHECKS = new Checks();
    private static final String FOUR = "ba5;ab4;a9;bad3";

    public static void main(String[] args) {
        orders();
        names();
        marriages();
        manyDays();
        yearsThatAreDone();
        yearsThatCannot();
        undone();
        undoForgotten();
        books();
        yielded();
        stopped();
        dryDays();
        waited();
        CHECKS.close();
    }

    private static void orders() {
        WaterByLetters w = Checks.town("a1;b1;h1");
        CHECKS.due(10, "bacdefgh", Checks.text(w, "bacdefgh").order(), 1);
        CHECKS.due(10, "count(11)", w.count(11), 0);
        CHECKS.due(10, "count(6)", w.count(6), 1);
        w.book();
        CHECKS.row(10, "book()", w, 1, 0, 2);
        CHECKS.due(10, "hgfedcba", Checks.text(w, "hgfedcba").order(), 6);
        w.book();
        CHECKS.row(10, "book()", w, 2, 1, 0);
        CHECKS.due(10, "the same", Checks.text(w, "hgfedcba").order(), 0);
        CHECKS.due(10, "count(9)", w.count(9), 3);
        String[] texts = {"", "abc", "abca", "abcdefgha", "abcdefghi", "abcdefgi", "abcdefg", "abcdefgg", "1", "abcdefghabcdefgh"};
        int[] faults = {0, 3, 3, 8, 8, 7, 7, 7, 0, 8};
        for (int i = 0; i < texts.length; i++) {
            CHECKS.due(10, "order() " + texts[i], Checks.text(w, texts[i]).order(), -1 - faults[i]);
            CHECKS.due(10, "count(11)", w.count(11), 0);
        }
        CHECKS.due(10, "count(6)", w.count(6), 7);
        CHECKS.due(10, "count(9)", w.count(9), 3);
    }

    private static void names() {
        WaterByLetters w = Checks.town("a1;b2;c3");
        CHECKS.due(11, "name(0) d", Checks.text(w, "d").name(0), 2);
        CHECKS.due(11, "count(11)", w.count(11), 0);
        CHECKS.due(11, "name(1) c", Checks.text(w, "c").name(1), 0);
        CHECKS.due(11, "name(2) c", Checks.text(w, "c").name(2), 1);
        CHECKS.due(11, "name(0) cc", Checks.text(w, "cc").name(0), 2);
        CHECKS.due(11, "name(0) aaaaaa", Checks.text(w, "aaaaaa").name(0), 0);
        CHECKS.due(11, "house(0, 0)", w.house(0, 0), 6);
        CHECKS.due(11, "name(0) b", Checks.text(w, "b").name(0), 0);
        CHECKS.due(11, "house(0, 0)", w.house(0, 0), 1);
        CHECKS.due(11, "letter(0, 0)", w.letter(0, 0), 1);
        CHECKS.due(11, "count(9)", w.count(9), 6);
        int[] others = {3, -1, 8, Integer.MIN_VALUE};
        for (int other : others) {
            CHECKS.due(11, "name(" + other + ")", Checks.text(w, "x").name(other), -100);
            CHECKS.due(11, "count(11)", w.count(11), 0);
        }
        String[] texts = {"", "abcdefg", "abcdef1", "ax", "Z", "a1"};
        int[] faults = {0, 6, 6, 1, 0, 1};
        for (int i = 0; i < texts.length; i++) {
            CHECKS.due(11, "name(0) " + texts[i], Checks.text(w, texts[i]).name(0), -1 - faults[i]);
            CHECKS.due(11, "count(11)", w.count(11), 0);
        }
        CHECKS.due(11, "house(0, 0)", w.house(0, 0), 1);
        CHECKS.due(11, "count(9)", w.count(9), 6);
    }

    private static void marriages() {
        WaterByLetters w = Checks.town(FOUR);
        CHECKS.due(12, "marry(3, 2)", w.marry(3, 2), 2);
        CHECKS.due(12, "house(3, 0)", w.house(3, 0), 1);
        CHECKS.due(12, "marry(2, 0)", w.marry(2, 0), -3);
        CHECKS.due(12, "letter(2, 0)", w.letter(2, 0), 1);
        CHECKS.due(12, "like names", w.marry(0, 2), 0);
        CHECKS.due(12, "count(9)", w.count(9), 3);
        CHECKS.due(12, "house(3, 1)", w.house(3, 1), 3);
        CHECKS.due(12, "marry(0, 0)", w.marry(0, 0), -100);
        CHECKS.due(12, "marry(4, 0)", w.marry(4, 0), -100);
        CHECKS.due(12, "marry(0, 4)", w.marry(0, 4), -100);
        CHECKS.due(12, "marry(-1, 0)", w.marry(-1, 0), -100);
        CHECKS.due(12, "marry(0, -1)", w.marry(0, -1), -100);
        CHECKS.due(12, "count(9)", w.count(9), 3);
    }

    private static void manyDays() {
        WaterByLetters w = Checks.town(FOUR);
        CHECKS.due(13, "days(1)", w.days(1), 1);
        CHECKS.row(13, "days(1)", w, 8, 0);
        CHECKS.due(13, "days(0)", w.days(0), 0);
        CHECKS.row(13, "days(0)", w, 0, 0);
        CHECKS.due(13, "count(1)", w.count(1), 1);
        Checks.text(w, "50").heat();
        CHECKS.due(13, "days(2)", w.days(2), 4);
        CHECKS.row(13, "days(2)", w, 11, 0);
        CHECKS.due(13, "count(1)", w.count(1), 3);
        CHECKS.due(13, "count(4)", w.count(4), 5);
        CHECKS.due(13, "count(5)", w.count(5), 20 + 20 + 10);
        CHECKS.due(13, "days(61)", w.days(61), -1);
        CHECKS.due(13, "days(-1)", w.days(-1), -1);
        CHECKS.row(13, "refused", w, 11, 0);
        CHECKS.due(13, "count(1)", w.count(1), 3);
        CHECKS.due(13, "count(9)", w.count(9), 3);
        Checks.text(w, "30").rule();
        CHECKS.due(13, "days(60)", w.days(60), 0);
        CHECKS.row(13, "days(60)", w, 0, 9 * 60);
        CHECKS.due(13, "house(2, 3)", w.house(2, 3), 9 * 63);
        CHECKS.due(13, "without houses", new WaterByLetters().days(3), 0);
    }

    private static void yearsThatAreDone() {
        WaterByLetters w = Checks.town(FOUR);
        CHECKS.due(14, "of none", w.year(), 0);
        CHECKS.row(14, "of none", w, 0, 0);
        CHECKS.due(14, "count(9)", w.count(9), 0);
        CHECKS.due(14, "d2m32rs", Checks.text(w, "d2m32rs").year(), 4);
        CHECKS.row(14, "d2m32rs", w, 0, 2);
        CHECKS.due(14, "count(1)", w.count(1), 2);
        CHECKS.due(14, "count(6)", w.count(6), 6);
        CHECKS.due(14, "house(3, 0)", w.house(3, 0), 1);
        CHECKS.due(14, "count(9)", w.count(9), 1);
        CHECKS.due(14, "place of h", Checks.text(w, "gfedcbah").votes(), 0);
        CHECKS.row(14, "the order is gfedcbah", w, 0, 0);
        w.undo();
        CHECKS.due(14, "d1m33d1", Checks.text(w, "d1m33d1").year(), 1);
        CHECKS.row(14, "d1m33d1", w, 1, 1);
        CHECKS.due(14, "count(1)", w.count(1), 1);
        CHECKS.due(14, "count(9)", w.count(9), 1);
        CHECKS.due(14, "m09r", Checks.text(w, "m09r").year(), 0);
        CHECKS.row(14, "m09r", w, 1, 1);
        CHECKS.due(14, "m40", Checks.text(w, "m40").year(), 0);
        CHECKS.due(14, "count(9)", w.count(9), 1);
        CHECKS.due(14, "count(6)", w.count(6), 0);
        CHECKS.due(14, "d0", Checks.text(w, "d0").year(), 1);
        CHECKS.due(14, "count(9)", w.count(9), 2);
        CHECKS.due(14, "60 signs", Checks.text(w, "d9".repeat(30)).year(), 30);
        CHECKS.due(14, "count(1)", w.count(1), 271);
        CHECKS.row(14, "60 signs", w, 0, 271);
    }

    private static void yearsThatCannot() {
        WaterByLetters w = Checks.town(FOUR);
        w.book();
        String r = "r".repeat(59);
        String[] texts = {"d", "m1", "m", "x", "dd", "m1r", "d1x", "1", r + "rr", r + "d", r + "d1", r + "x", r + "xr",
            "d1" + r + "r", "rsx", "m123"};
        int[] faults = {1, 2, 1, 0, 1, 2, 2, 0, 60, 60, 60, 59, 59, 60, 2, 3};
        for (int i = 0; i < texts.length; i++) {
            CHECKS.due(14, "year() " + texts[i], Checks.text(w, texts[i]).year(), -1 - faults[i]);
            CHECKS.due(14, "count(11)", w.count(11), 0);
        }
        CHECKS.row(14, "refused", w, 2, 1, 0, 3);
        CHECKS.due(14, "count(1)", w.count(1), 0);
        CHECKS.due(14, "count(6)", w.count(6), 0);
        CHECKS.due(14, "count(9)", w.count(9), 0);
    }

    private static void undone() {
        WaterByLetters w = Checks.town(FOUR);
        for (int i = 0; i < 17; i++) {
            w.days(1);
        }
        CHECKS.due(15, "count(9)", w.count(9), 15);
        for (int i = 14; i >= 0; i--) {
            CHECKS.due(15, "undo()", w.undo(), i);
            CHECKS.due(15, "count(1)", w.count(1), i + 2);
            CHECKS.due(15, "house(3, 2)", w.house(3, 2), i + 2);
            CHECKS.due(15, "house(3, 3)", w.house(3, 3), 2 * (i + 2));
        }
        CHECKS.due(15, "undo()", w.undo(), -1);
        CHECKS.due(15, "count(1)", w.count(1), 2);
        Checks.text(w, "hgfedcba").order();
        Checks.text(w, "cde").name(0);
        w.marry(1, 0);
        Checks.text(w, "d3rm30").year();
        CHECKS.due(15, "undo() of year()", w.undo(), 3);
        CHECKS.due(15, "count(1)", w.count(1), 2);
        CHECKS.due(15, "count(6)", w.count(6), 7);
        CHECKS.due(15, "letter(3, 0)", w.letter(3, 0), 1);
        CHECKS.due(15, "undo() of marry()", w.undo(), 2);
        CHECKS.due(15, "house(1, 0)", w.house(1, 0), 2);
        CHECKS.due(15, "undo() of name()", w.undo(), 1);
        CHECKS.due(15, "house(0, 0)", w.house(0, 0), 2);
        CHECKS.due(15, "letter(0, 0)", w.letter(0, 0), 1);
        CHECKS.due(15, "undo() of order()", w.undo(), 0);
        CHECKS.due(15, "count(6)", w.count(6), 0);
        w.days(0);
        CHECKS.due(15, "count(9) behind days(0)", w.count(9), 1);
        w.days(99);
        w.marry(0, 0);
        Checks.text(w, "ab").order();
        Checks.text(w, "").name(0);
        Checks.text(w, "x").year();
        CHECKS.due(15, "count(9) behind refused ones", w.count(9), 1);
    }

    private static void undoForgotten() {
        WaterByLetters w = Checks.town(FOUR);
        w.keep(0);
        w.days(1);
        w.days(1);
        w.end(0);
        w.houses();
        CHECKS.due(15, "an empty houses()", w.count(9), 2);
        Checks.text(w, "x").houses();
        CHECKS.due(15, "a refused houses()", w.count(9), 2);
        w.again(1);
        CHECKS.due(15, "a refused again()", w.count(9), 2);
        w.again(0);
        CHECKS.due(15, "again()", w.count(9), 0);
        CHECKS.due(15, "undo()", w.undo(), -1);
        w.days(1);
        Checks.text(w, "h1").houses();
        CHECKS.due(15, "houses()", w.count(9), 0);
        CHECKS.due(15, "undo()", w.undo(), -1);
        CHECKS.due(15, "count(1)", w.count(1), 1);
    }

    private static void books() {
        WaterByLetters w = Checks.town("b1;ab1;a1;ab1;ba1;abc1");
        CHECKS.due(16, "book()", w.book(), 6);
        CHECKS.row(16, "book()", w, 2, 1, 3, 5, 0, 4);
        Checks.text(w, "cbahgfed").order();
        w.book();
        CHECKS.row(16, "book() by cbahgfed", w, 0, 4, 2, 1, 3, 5);
        WaterByLetters none = new WaterByLetters();
        CHECKS.due(16, "book() of none", none.book(), 0);
        CHECKS.row(16, "book() of none", none);
    }

    private static void yielded() {
        WaterByLetters w = Checks.town(FOUR);
        CHECKS.due(17, "yields(0)", w.yields(0), 20);
        CHECKS.row(17, "yields(0)", w, 3, 0);
        Checks.text(w, "50").rule();
        CHECKS.due(17, "yields(0) by 50", w.yields(0), 50);
        CHECKS.row(17, "yields(0) by 50", w, 4, 29);
        Checks.text(w, "d").rule();
        CHECKS.due(17, "yields(13)", w.yields(13), 3);
        CHECKS.row(17, "yields(13)", w, 0, 0);
        CHECKS.due(17, "yields(99)", w.yields(99), 9);
        CHECKS.row(17, "yields(99)", w, 1, 0);
        CHECKS.due(17, "yields(100)", w.yields(100), -1);
        CHECKS.due(17, "yields(-1)", w.yields(-1), -1);
        CHECKS.row(17, "refused", w, 1, 0);
        CHECKS.due(17, "count(1)", w.count(1), 0);
        w.days(4);
        CHECKS.due(17, "yields(1) on DAY 4", w.yields(1), 5);
    }

    private static void stopped() {
        WaterByLetters w = Checks.town(FOUR);
        CHECKS.due(18, "stops()", w.stops(), 3);
        CHECKS.row(18, "stops()", w, 1, 2);
        Checks.text(w, "21").rule();
        CHECKS.due(18, "stops() by 21", w.stops(), -2);
        CHECKS.row(18, "none: no row told", w, 1, 2);
        Checks.text(w, "9").rule();
        CHECKS.due(18, "stops() by 9", w.stops(), 1);
        CHECKS.row(18, "stops() by 9", w, 0, 0);
        Checks.text(w, "0").rule();
        CHECKS.due(18, "stops() by 0", w.stops(), 2);
        CHECKS.row(18, "stops() by 0", w, 0, 0);
        CHECKS.due(18, "without houses", new WaterByLetters().stops(), -2);
    }

    private static void dryDays() {
        WaterByLetters w = Checks.town(FOUR);
        Checks.text(w, "05").heat();
        CHECKS.due(19, "dry(1, 4)", w.dry(1, 4), 2);
        CHECKS.row(19, "dry(1, 4)", w, 10);
        CHECKS.due(19, "dry(2, 4)", w.dry(2, 4), 0);
        CHECKS.row(19, "dry(2, 4)", w, 36);
        CHECKS.due(19, "dry(3, 60)", w.dry(3, 60), 60);
        CHECKS.row(19, "dry(3, 60)", w, 60);
        CHECKS.due(19, "dry(0, 0)", w.dry(0, 0), 0);
        CHECKS.row(19, "dry(0, 0)", w, 0);
        w.days(1);
        CHECKS.due(19, "dry(1, 1) on DAY 1", w.dry(1, 1), 1);
        CHECKS.row(19, "dry(1, 1) on DAY 1", w, 1);
        CHECKS.due(19, "dry(4, 1)", w.dry(4, 1), -1);
        CHECKS.due(19, "dry(-1, 1)", w.dry(-1, 1), -1);
        CHECKS.due(19, "dry(0, 61)", w.dry(0, 61), -1);
        CHECKS.due(19, "dry(0, -1)", w.dry(0, -1), -1);
        CHECKS.row(19, "refused", w, 1);
        CHECKS.due(19, "count(1)", w.count(1), 1);
        CHECKS.due(19, "count(4)", w.count(4), 1);
        CHECKS.due(19, "count(5)", w.count(5), 20);
        CHECKS.due(19, "count(9)", w.count(9), 1);
    }

    private static void waited() {
        String[] rules = {"20", "9", "11", "0", "99"};
        int[][] due = {{40, 19, 18}, {0, 0, 0}, {9, 2, 9}, {0, 0, 0}, {0 + 9 + 13 + 18, 0 + 3 + 7 + 12, 18}};
        for (int i = 0; i < rules.length; i++) {
            WaterByLetters w = Checks.townWithRule(FOUR, rules[i]);
            CHECKS.due(20, "waits() by " + rules[i], w.waits(), due[i][0]);
            CHECKS.row(20, "waits() by " + rules[i], w, due[i][1], due[i][2]);
        }
        WaterByLetters none = new WaterByLetters();
        CHECKS.due(20, "without houses", none.waits(), 0);
        CHECKS.row(20, "without houses", none, 0, 0);
    }
}
