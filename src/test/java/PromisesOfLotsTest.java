/** Promises 29 to 42: lots, shares, which order it was, laws, rests, years, what is kept, counts, the row. */
public final class PromisesOfLotsTest {
    private static final Checks CHECKS = new Checks();
    private static final String FOUR = "ba5;ab4;a9;bad3";

    public static void main(String[] args) {
        lots();
        shared();
        seen();
        fitting();
        surely();
        asked();
        laws();
        atRest();
        drawnYears();
        kept();
        again();
        counts();
        rows();
        CHECKS.close();
    }

    private static void lots() {
        WaterByLetters w = Checks.town(FOUR);
        for (int h = 0; h < 4; h++) {
            CHECKS.due(29, "lot(" + h + ")", w.lot(h), 0);
            CHECKS.row(29, "lot(" + h + ")", w, 3, 4);
        }
        Checks.text(w, "9").rule();
        w.lot(3);
        CHECKS.row(29, "lot(3) by 9", w, 5, 12);
        w.lot(2);
        CHECKS.row(29, "lot(2) by 9", w, 1, 4);
        Checks.text(w, "2").rule();
        CHECKS.due(29, "lot(0) by 2", w.lot(0), 0);
        CHECKS.row(29, "lot(0) by 2", w, 0, 1);
        Checks.text(w, "21").rule();
        w.lot(0);
        CHECKS.row(29, "lot(0) by 21", w, 1, 1);
        CHECKS.due(29, "lot(4)", w.lot(4), -1);
        CHECKS.due(29, "lot(-1)", w.lot(-1), -1);
        CHECKS.row(29, "refused", w, 1, 1);
        w = Checks.townWithRule("a1;b1;c1;d1;e1;f1;g1;h1", "3");
        w.lot(7);
        CHECKS.row(29, "lot(7) of eight", w, 3, 8);
    }

    private static void shared() {
        WaterByLetters w = Checks.town(FOUR);
        CHECKS.due(30, "shares(10)", w.shares(10), 2);
        CHECKS.row(30, "shares(10)", w, 2, 2, 4, 2);
        CHECKS.due(30, "shares(21)", w.shares(21), 5);
        CHECKS.row(30, "shares(21)", w, 5, 4, 9, 3);
        CHECKS.due(30, "shares(0)", w.shares(0), 0);
        CHECKS.row(30, "shares(0)", w, 0, 0, 0, 0);
        CHECKS.due(30, "shares(100)", w.shares(100), -1);
        CHECKS.due(30, "shares(-1)", w.shares(-1), -1);
        CHECKS.row(30, "refused", w, 0, 0, 0, 0);
        w = Checks.town("a1;b1;c1");
        CHECKS.due(30, "like rests", w.shares(2), 1);
        CHECKS.row(30, "like rests", w, 1, 1, 0);
        w = Checks.town("a9;b9");
        CHECKS.due(30, "shares(99)", w.shares(99), 50);
        CHECKS.row(30, "shares(99)", w, 50, 49);
        WaterByLetters none = new WaterByLetters();
        none.waits();
        CHECKS.due(30, "without houses", none.shares(99), 0);
        CHECKS.row(30, "without houses", none);
    }

    private static void seen() {
        WaterByLetters w = Checks.town(FOUR);
        CHECKS.due(31, "saw(0, 0)", w.saw(0, 0), -1);
        CHECKS.due(31, "saw(4, 0)", w.saw(4, 0), -1);
        CHECKS.due(31, "saw(0, 4)", w.saw(0, 4), -1);
        CHECKS.due(31, "saw(-1, 0)", w.saw(-1, 0), -1);
        CHECKS.due(31, "count(8)", w.count(8), 0);
        for (int i = 1; i <= 8; i++) {
            CHECKS.due(31, "saw(0, 2)", w.saw(0, 2), i);
        }
        CHECKS.due(31, "a ninth", w.saw(0, 2), -1);
        CHECKS.due(31, "count(8)", w.count(8), 8);
        CHECKS.due(31, "fits()", w.fits(), 20160);
        Checks.text(w, "ca").name(2);
        w.fits();
        CHECKS.row(31, "fits() by the names as they are", w, 0, 1, 2, 3, 4, 5, 6, 7);
        w.undo();
        w.fits();
        CHECKS.row(31, "fits() by the names as they were", w, 1, 0, 2, 3, 4, 5, 6, 7);
        CHECKS.due(32, "forget()", w.forget(), 8);
        CHECKS.due(32, "count(8)", w.count(8), 0);
        CHECKS.due(32, "fits()", w.fits(), 40320);
        CHECKS.due(32, "forget()", w.forget(), 0);
        CHECKS.due(32, "saw(0, 2)", w.saw(0, 2), 1);
    }

    private static void fitting() {
        WaterByLetters w = Checks.town(FOUR);
        CHECKS.due(33, "all", w.fits(), 40320);
        CHECKS.row(33, "all", w, 0, 1, 2, 3, 4, 5, 6, 7);
        w.saw(2, 1);
        CHECKS.due(33, "a beginning is ahead", w.fits(), 40320);
        w.saw(0, 2);
        CHECKS.due(33, "b ahead of a", w.fits(), 20160);
        CHECKS.row(33, "b ahead of a", w, 1, 0, 2, 3, 4, 5, 6, 7);
        w.saw(1, 2);
        CHECKS.due(33, "a beginning is never behind", w.fits(), 0);
        CHECKS.row(33, "a beginning is never behind", w);
        w = Checks.town("a1;a1");
        w.saw(0, 1);
        CHECKS.due(33, "like names by their numbers", w.fits(), 40320);
        w.saw(1, 0);
        CHECKS.due(33, "like names not by their numbers", w.fits(), 0);
        w = chain();
        CHECKS.due(33, "c b a", w.fits(), 6720);
        CHECKS.row(33, "c b a", w, 2, 1, 0, 3, 4, 5, 6, 7);
        w.saw(0, 2);
        CHECKS.due(33, "a round", w.fits(), 0);
        w = Checks.town("h1;aa1;ab1;g1;ba1");
        w.saw(0, 3);
        w.saw(2, 1);
        w.saw(3, 4);
        CHECKS.due(33, "h g b a", w.fits(), 1680);
        CHECKS.row(33, "h g b a", w, 2, 3, 4, 5, 7, 6, 1, 0);
    }

    /** c is ahead of b, b of a. */
    private static WaterByLetters chain() {
        WaterByLetters w = Checks.town("a1;b1;c1");
        w.saw(2, 1);
        w.saw(1, 0);
        return w;
    }

    private static void surely() {
        WaterByLetters w = chain();
        int[][] due = {{2, 0, 6720, 1, 1}, {0, 2, 0, 0, 1}, {0, 3, 1680, 1, 4}, {3, 0, 5040, 3, 4}, {1, 7, 3360, 1, 2},
            {2, 4, 5040, 3, 4}, {7, 6, 3360, 1, 2}};
        for (int[] one : due) {
            CHECKS.due(34, "sure(" + one[0] + ", " + one[1] + ")", w.sure(one[0], one[1]), one[2]);
            CHECKS.row(34, "sure(" + one[0] + ", " + one[1] + ")", w, one[3], one[4]);
        }
        CHECKS.due(34, "sure(0, 0)", w.sure(0, 0), -1);
        CHECKS.due(34, "sure(8, 0)", w.sure(8, 0), -1);
        CHECKS.due(34, "sure(0, 8)", w.sure(0, 8), -1);
        CHECKS.due(34, "sure(-1, 0)", w.sure(-1, 0), -1);
        CHECKS.due(34, "sure(0, -1)", w.sure(0, -1), -1);
        CHECKS.row(34, "refused", w, 1, 2);
        w.saw(0, 2);
        CHECKS.due(34, "none fits", w.sure(3, 4), 0);
        CHECKS.row(34, "none fits", w, 0, 1);
    }

    private static void asked() {
        WaterByLetters w = new WaterByLetters();
        CHECKS.due(35, "all", w.ask(), 20160);
        CHECKS.row(35, "all", w, 0, 1);
        w = chain();
        CHECKS.due(35, "c b a", w.ask(), 3360);
        CHECKS.row(35, "c b a", w, 1, 3);
        w.saw(0, 2);
        CHECKS.due(35, "none fits", w.ask(), -2);
        CHECKS.row(35, "none fits: no row told", w, 1, 3);
    }

    private static void laws() {
        WaterByLetters w = Checks.town(FOUR);
        CHECKS.due(36, "30", Checks.text(w, "30").law(), -10);
        CHECKS.row(36, "30", w, 0, 10);
        CHECKS.due(36, "0", Checks.text(w, "0").law(), 30);
        CHECKS.row(36, "0", w, 40, 10);
        CHECKS.due(36, "count(11)", w.count(11), 0);
        String[] texts = {"1+", "x", "1-".repeat(20) + "1", "1<2<3", "(1"};
        int[] faults = {2, 0, 40, 3, 2};
        for (int i = 0; i < texts.length; i++) {
            CHECKS.due(36, texts[i], Checks.text(w, texts[i]).law(), -10000 - faults[i]);
            CHECKS.due(36, "count(11)", w.count(11), 0);
        }
        CHECKS.row(36, "refused", w, 40, 10);
        CHECKS.due(36, "none", w.law(), 0);
        CHECKS.row(36, "none", w, 10, 10);
        CHECKS.due(36, "count(2)", w.count(2), 20);
        CHECKS.due(36, "count(1)", w.count(1), 0);
        CHECKS.due(36, "count(4)", w.count(4), 0);
        Checks.text(w, "d*3").rule();
        w.days(5);
        CHECKS.due(36, "30*(d>7)", Checks.text(w, "30*(d>7)").law(), 32 - 21);
        CHECKS.row(36, "30*(d>7)", w, 32, 21);
        Checks.text(w, "30").rule();
        CHECKS.due(36, "none, by 30", w.law(), 10);
        CHECKS.row(36, "none, by 30", w, 10, 0);
    }

    private static void atRest() {
        int[][] due = {{0, 9, 0, 0}, {3, 11, 2, 1}, {5, 3, 5, 0}, {9, 5, 8, 1}, {18, 4, 8, 8}};
        WaterByLetters w = new WaterByLetters();
        for (int[] one : due) {
            CHECKS.due(37, "rests(" + one[0] + ")", w.rests(one[0]), one[1]);
            CHECKS.row(37, "rests(" + one[0] + ")", w, one[2], one[3]);
        }
        CHECKS.due(37, "rests(19)", w.rests(19), -1);
        CHECKS.due(37, "rests(-1)", w.rests(-1), -1);
        CHECKS.row(37, "refused", w, 8, 8);
    }

    private static void drawnYears() {
        int[][] due = {{1, 1, 0, 1, 0}, {1, 12, 8, 2, 4}, {7, 60, 49, 0, 29}, {-5, 20, 23, 2, 9},
            {2147483647, 33, 30, 0, 16}, {0, 2, 4, 2, 2}};
        WaterByLetters w = Checks.town(FOUR);
        Checks.text(w, "05").heat();
        for (int[] one : due) {
            CHECKS.due(38, "years(" + one[0] + ", " + one[1] + ")", w.years(one[0], one[1]), one[2]);
            CHECKS.row(38, "years(" + one[0] + ", " + one[1] + ")", w, one[3], one[4]);
        }
        CHECKS.due(38, "years(0, 0)", w.years(0, 0), -1);
        CHECKS.due(38, "years(0, 61)", w.years(0, 61), -1);
        CHECKS.row(38, "refused", w, 2, 2);
        CHECKS.due(38, "count(1)", w.count(1), 0);
        CHECKS.due(38, "count(4)", w.count(4), 0);
        CHECKS.due(38, "count(6)", w.count(6), 0);
        CHECKS.due(38, "count(9)", w.count(9), 0);
        CHECKS.due(38, "house(3, 0)", w.house(3, 0), 3);
        Checks.text(w, "0").heat();
        w.days(3);
        CHECKS.due(38, "years(42, 8) on DAY 3", w.years(42, 8), 4);
        CHECKS.row(38, "years(42, 8) on DAY 3", w, 2, 5);
        WaterByLetters none = new WaterByLetters();
        CHECKS.due(38, "without houses", none.years(3, 10), 0);
        CHECKS.row(38, "without houses", none, -1, 0);
    }

    private static void kept() {
        WaterByLetters w = Checks.town(FOUR);
        CHECKS.due(39, "keep(-1)", w.keep(-1), false);
        CHECKS.due(39, "keep(3)", w.keep(3), false);
        CHECKS.due(39, "keep(0)", w.keep(0), true);
        w.days(1);
        CHECKS.due(39, "keep(1)", w.keep(1), true);
        w.days(1);
        CHECKS.due(39, "keep(2)", w.keep(2), true);
        for (int i = 0; i < 3; i++) {
            CHECKS.due(39, "again(" + i + ")", w.again(i), true);
            CHECKS.due(39, "count(1)", w.count(1), i);
        }
        CHECKS.due(39, "keep(0) anew", w.keep(0), true);
        w.days(1);
        w.again(0);
        CHECKS.due(39, "count(1)", w.count(1), 2);
        w.days(1);
        CHECKS.due(39, "count(9)", w.count(9), 1);
        w.keep(0);
        CHECKS.due(39, "count(9)", w.count(9), 1);
    }

    private static void again() {
        WaterByLetters w = Checks.town(FOUR);
        CHECKS.due(40, "nothing kept", w.again(0), false);
        CHECKS.due(40, "again(-1)", w.again(-1), false);
        CHECKS.due(40, "again(3)", w.again(3), false);
        w.keep(1);
        Checks.text(w, "d3rm30").year();
        Checks.text(w, "4").heat();
        w.sheet(2, 4, 2, 0);
        w.saw(0, 1);
        CHECKS.due(40, "again(0)", w.again(0), false);
        CHECKS.due(40, "count(1)", w.count(1), 3);
        CHECKS.due(40, "again(1)", w.again(1), true);
        int[] due = {4, 0, 12, 8, 0, 0, 0, 1, 1, 0};
        for (int i = 0; i < due.length; i++) {
            CHECKS.due(40, "count(" + i + ")", w.count(i), due[i]);
        }
        CHECKS.due(40, "house(3, 0)", w.house(3, 0), 3);
        w.days(1);
        CHECKS.due(40, "again(1) once more", w.again(1), true);
        CHECKS.due(40, "count(1)", w.count(1), 0);
        w.end(0);
        w.houses();
        Checks.text(w, "a").houses();
        CHECKS.due(40, "no houses came", w.again(1), true);
        Checks.text(w, "a1").houses();
        CHECKS.due(40, "houses came", w.again(1), false);
        CHECKS.due(40, "count(0)", w.count(0), 5);
        w.keep(1);
        w.days(1);
        CHECKS.due(40, "kept behind them", w.again(1), true);
        CHECKS.due(40, "count(1)", w.count(1), 0);
        WaterByLetters none = new WaterByLetters();
        none.keep(0);
        none.days(2);
        CHECKS.due(40, "without houses", none.again(0), true);
        CHECKS.due(40, "count(1)", none.count(1), 0);
    }

    private static void counts() {
        WaterByLetters w = Checks.town(FOUR);
        Checks.text(w, "012").heat();
        w.days(2);
        Checks.text(w, "habcdefg").order();
        w.saw(0, 1);
        w.book();
        w.sign(0);
        int[] due = {4, 2, 16, 21, 1 + 1, 20 + 18, 7, 3, 1, 2, 4, 4};
        for (int i = 0; i < due.length; i++) {
            CHECKS.due(41, "count(" + i + ")", w.count(i), due[i]);
        }
        CHECKS.due(41, "count(12)", w.count(12), -100);
        CHECKS.due(41, "count(-1)", w.count(-1), -100);
        CHECKS.due(41, "count(MIN)", w.count(Integer.MIN_VALUE), -100);
    }

    private static void rows() {
        WaterByLetters w = new WaterByLetters();
        CHECKS.throwsNoSuch(42, "row(0) of none", () -> w.row(0));
        Checks.text(w, FOUR).houses();
        w.book();
        CHECKS.due(42, "row(0)", w.row(0), 2);
        CHECKS.due(42, "row(3)", w.row(3), 3);
        CHECKS.throwsNoSuch(42, "row(4)", () -> w.row(4));
        CHECKS.throwsNoSuch(42, "row(-1)", () -> w.row(-1));
        CHECKS.throwsNoSuch(42, "row(8)", () -> w.row(8));
        w.count(0);
        w.marry(0, 1);
        w.undo();
        w.keep(0);
        w.saw(0, 1);
        w.forget();
        CHECKS.row(42, "calls that tell no row", w, 2, 1, 0, 3);
        w.dry(0, 1);
        CHECKS.row(42, "dry(0, 1)", w, 5);
        CHECKS.throwsNoSuch(42, "row(1)", () -> w.row(1));
    }
}
