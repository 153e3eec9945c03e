import java.util.function.ToLongFunction;

/** Boundary cases of promises 29 to 42, one test each: lots, shares, what was seen, laws, rests, years, the kept. */
public final class EdgesOfLotsTest {
    private static final ToLongFunction<WaterByLetters> LAW = WaterByLetters::law;
    private static final String ONES = "a1;b1;c1;d1;e1;f1;g1;h1";
    private static final String FIRST = "abcdefgh";
    private static final int MIN = Integer.MIN_VALUE;
    private static final int MAX = Integer.MAX_VALUE;

    public static void main(String[] args) {
        Edges.run(EdgesOfLotsTest.class, 29, 42);
    }

    // ---- promise 29: lot

    private static void lot(String houses, String rule, int house, long upper, long lower) {
        WaterByLetters w = Checks.townWithRule(houses, rule);
        Edges.is("lot(" + house + ") of " + houses + " by " + rule, w.lot(house), 0);
        Edges.row(w, upper, lower);
    }

    static void p29_noSuchHouse() {
        for (int house : new int[] {-1, 4, 8, MIN, MAX}) {
            Edges.refused("lot(" + house + ")", -1, w -> w.lot(house));
        }
        Edges.is("without houses", new WaterByLetters().lot(0), -1);
    }

    static void p29_neverIs0By1() {
        lot("a1", "0", 0, 0, 1);
        lot(ONES, "0", 7, 0, 1);
        lot("a5;b1", "4", 0, 0, 1);
    }

    static void p29_alwaysIs1By1() {
        lot("a1", "1", 0, 1, 1);
        lot(ONES, "8", 3, 1, 1);
        lot("a5;b4", "9", 0, 1, 1);
    }

    static void p29_oneCupTooFewForAll() {
        lot("a5;b4", "8", 0, 1, 2);
        lot(ONES, "7", 3, 7, 8);
    }

    static void p29_lowestTerms() {
        lot(ONES, "4", 0, 1, 2);
        lot(ONES, "6", 7, 3, 4);
        lot("a1;b1;c1", "1", 1, 1, 3);
    }

    static void p29_whoHasLessTakesWhatIsLeft() {
        lot("a1;b9", "9", 0, 1, 2);
        lot("a1;b9", "9", 1, 1, 2);
    }

    static void p29_changesNothing() {
        Edges.question("lot(1)", w -> w.lot(1));
    }

    // ---- promise 30: shares

    private static void shares(String houses, int v, long... row) {
        WaterByLetters w = Checks.town(houses);
        w.yields(0);
        Edges.is("shares(" + v + ") of " + houses, w.shares(v), row.length == 0 ? 0 : row[0]);
        Edges.row(w, row);
    }

    static void p30_fewerThan0Cups() {
        Edges.refused("shares(-1)", -1, w -> w.shares(-1));
        Edges.refused("shares(MIN)", -1, w -> w.shares(MIN));
    }

    static void p30_moreThan99Cups() {
        Edges.refused("shares(100)", -1, w -> w.shares(100));
        Edges.refused("shares(MAX)", -1, w -> w.shares(MAX));
    }

    static void p30_noCups() {
        shares("a9;b9;c9", 0, 0, 0, 0);
    }

    static void p30_ninetyNineCups() {
        shares("a9;b9;c9", 99, 33, 33, 33);
        shares("a9", 99, 99);
        shares("a1;b9", 99, 10, 89);
    }

    static void p30_withoutHouses() {
        shares("", 0);
        shares("", 99);
        Edges.is("shares(100)", new WaterByLetters().shares(100), -1);
    }

    static void p30_theGreatestRest() {
        shares("a1;b2", 1, 0, 1);
        shares("a2;b1", 1, 1, 0);
        shares("a1;b2;c3", 1, 0, 0, 1);
    }

    static void p30_ofLikeRestsTheFirst() {
        shares("a1;b1;c1", 1, 1, 0, 0);
        shares("a1;b1;c1", 2, 1, 1, 0);
        shares("c1;b1;a1", 1, 1, 0, 0);
    }

    static void p30_sevenAreLeft() {
        shares(ONES, 7, 1, 1, 1, 1, 1, 1, 1, 0);
        shares(ONES, 15, 2, 2, 2, 2, 2, 2, 2, 1);
    }

    static void p30_noneAreLeft() {
        shares(ONES, 8, 1, 1, 1, 1, 1, 1, 1, 1);
        shares("a1;b2;c3", 6, 1, 2, 3);
    }

    static void p30_changesNothing() {
        Edges.question("shares(50)", w -> w.shares(50));
    }

    // ---- promise 31: saw

    private static WaterByLetters sawEight() {
        WaterByLetters w = Checks.town(ONES);
        for (int i = 0; i < 8; i++) {
            w.saw(1, 0);
        }
        return w;
    }

    static void p31_noSuchHouses() {
        for (int other : new int[] {-1, 4, 8, MIN, MAX}) {
            Edges.refused("saw(" + other + ", 0)", -1, w -> w.saw(other, 0));
            Edges.refused("saw(0, " + other + ")", -1, w -> w.saw(0, other));
        }
        Edges.is("without houses", new WaterByLetters().saw(0, 1), -1);
    }

    static void p31_likeOnes() {
        Edges.refused("saw(0, 0)", -1, w -> w.saw(0, 0));
        Edges.refused("saw(3, 3)", -1, w -> w.saw(3, 3));
    }

    static void p31_eight() {
        WaterByLetters w = Checks.town(ONES);
        for (int i = 1; i < 8; i++) {
            Edges.is("saw()", w.saw(i, i - 1), i);
        }
        Edges.is("an eighth", w.saw(7, 0), 8);
        Edges.is("count(8)", w.count(8), 8);
    }

    static void p31_aNinthIsRefused() {
        WaterByLetters w = sawEight();
        Edges.is("a ninth", w.saw(0, 1), -1);
        Edges.is("count(8)", w.count(8), 8);
        Edges.alike("a ninth", w, sawEight());
    }

    static void p31_byTheNamesAsTheyAreWhenItIsAsked() {
        WaterByLetters w = Checks.town("b1;a1");
        w.saw(0, 1);
        w.fits();
        Edges.rowIsOrder(w, "bacdefgh");
        Checks.text(w, "c").name(0);
        w.fits();
        Edges.rowIsOrder(w, "bcadefgh");
        w.marry(0, 1);
        Edges.is("like names", w.fits(), 40320);
        Checks.text(w, "aa").name(0);
        Edges.is("a beginning", w.fits(), 0);
    }

    static void p31_housesThatComeForgetNothing() {
        WaterByLetters w = Checks.town("b1;a1");
        w.saw(0, 1);
        Checks.text(w, "c1").houses();
        Edges.is("count(8)", w.count(8), 1);
        Edges.is("saw(2, 0)", w.saw(2, 0), 2);
    }

    static void p31_leavesTheRow() {
        Edges.leavesRow("saw()", w -> w.saw(1, 2));
    }

    // ---- promise 32: forget

    static void p32_nothingWasSeen() {
        Edges.is("forget()", new WaterByLetters().forget(), 0);
        Edges.is("forget()", Checks.town(ONES).forget(), 0);
    }

    static void p32_eightWereSeen() {
        WaterByLetters w = sawEight();
        Edges.is("forget()", w.forget(), 8);
        Edges.is("count(8)", w.count(8), 0);
        Edges.is("fits()", w.fits(), 40320);
        Edges.is("saw()", w.saw(0, 1), 1);
        Edges.is("forget()", w.forget(), 1);
    }

    static void p32_leavesTheRow() {
        Edges.leavesRow("forget()", WaterByLetters::forget);
    }

    // ---- promise 33: fits

    static void p33_nothingWasSeen() {
        WaterByLetters w = new WaterByLetters();
        Edges.is("fits()", w.fits(), 40320);
        Edges.rowIsOrder(w, FIRST);
    }

    static void p33_noneFits() {
        WaterByLetters w = Checks.town("a1;b1;ab1;a1");
        w.fits();
        w.saw(0, 1);
        w.saw(1, 0);
        Edges.is("each ahead of the other", w.fits(), 0);
        Edges.row(w);
        w.forget();
        w.saw(2, 0);
        w.likes(0);
        Edges.is("ahead of its beginning", w.fits(), 0);
        Edges.row(w);
        w.forget();
        w.saw(3, 0);
        w.likes(0);
        Edges.is("like names against their numbers", w.fits(), 0);
        Edges.row(w);
    }

    /** Each HOUSE drank ahead of the one ahead of it by its number: the order is hgfedcba. */
    private static WaterByLetters sawAllTurnedRound() {
        WaterByLetters w = Checks.town(ONES);
        for (int i = 1; i < 8; i++) {
            w.saw(i, i - 1);
        }
        return w;
    }

    static void p33_oneFits() {
        WaterByLetters w = sawAllTurnedRound();
        Edges.is("fits()", w.fits(), 1);
        Edges.rowIsOrder(w, "hgfedcba");
    }

    static void p33_aRoundFitsNone() {
        WaterByLetters w = sawAllTurnedRound();
        w.saw(0, 7);
        Edges.is("fits()", w.fits(), 0);
        Edges.row(w);
    }

    static void p33_allFitWhatIsSoByAnyOrder() {
        WaterByLetters w = Checks.town("a1;ab1;a1");
        w.saw(0, 1);
        w.saw(0, 2);
        w.saw(2, 1);
        Edges.is("fits()", w.fits(), 40320);
        Edges.rowIsOrder(w, FIRST);
    }

    static void p33_changesNothing() {
        Edges.question("fits()", WaterByLetters::fits);
    }

    // ---- promise 34: sure

    static void p34_noSuchLetters() {
        for (int other : new int[] {-1, 8, MIN, MAX}) {
            Edges.refused("sure(" + other + ", 0)", -1, w -> w.sure(other, 0));
            Edges.refused("sure(0, " + other + ")", -1, w -> w.sure(0, other));
            Edges.refused("sure(" + other + ", " + other + ")", -1, w -> w.sure(other, other));
        }
    }

    static void p34_likeOnes() {
        Edges.refused("sure(0, 0)", -1, w -> w.sure(0, 0));
        Edges.refused("sure(7, 7)", -1, w -> w.sure(7, 7));
    }

    static void p34_nothingWasSeen() {
        WaterByLetters w = new WaterByLetters();
        Edges.is("sure(0, 7)", w.sure(0, 7), 20160);
        Edges.row(w, 1, 2);
        Edges.is("sure(7, 0)", w.sure(7, 0), 20160);
        Edges.row(w, 1, 2);
    }

    static void p34_noneFits() {
        WaterByLetters w = Checks.town("a1;a1");
        w.saw(1, 0);
        Edges.is("sure(0, 1)", w.sure(0, 1), 0);
        Edges.row(w, 0, 1);
        Edges.is("sure(6, 5)", w.sure(6, 5), 0);
        Edges.row(w, 0, 1);
    }

    static void p34_surelyIs1By1() {
        WaterByLetters w = Checks.town("a1;b1");
        w.saw(1, 0);
        Edges.is("sure(1, 0)", w.sure(1, 0), 20160);
        Edges.row(w, 1, 1);
        w = sawAllTurnedRound();
        Edges.is("sure(7, 0)", w.sure(7, 0), 1);
        Edges.row(w, 1, 1);
    }

    static void p34_neverIs0By1() {
        WaterByLetters w = Checks.town("a1;b1");
        w.saw(1, 0);
        Edges.is("sure(0, 1)", w.sure(0, 1), 0);
        Edges.row(w, 0, 1);
    }

    static void p34_lowestTerms() {
        WaterByLetters w = Checks.town("a1;b1");
        w.saw(1, 0);
        Edges.is("sure(1, 2)", w.sure(1, 2), 13440);
        Edges.row(w, 2, 3);
    }

    static void p34_changesNothing() {
        Edges.question("sure(3, 1)", w -> w.sure(3, 1));
    }

    // ---- promise 35: ask

    static void p35_noneFits() {
        WaterByLetters w = Checks.town("a1;a1");
        w.saw(1, 0);
        Edges.is("ask()", w.ask(), -2);
    }

    static void p35_ofEqualOnesTheLeastRow() {
        WaterByLetters w = new WaterByLetters();
        Edges.is("ask()", w.ask(), 20160);
        Edges.row(w, 0, 1);
        w = Checks.town("a1;b1");
        w.saw(0, 1);
        Edges.is("ask() with a ahead of b", w.ask(), 10080);
        Edges.row(w, 2, 3);
    }

    static void p35_oneOrderIsLeft() {
        WaterByLetters w = sawAllTurnedRound();
        Edges.is("ask()", w.ask(), 1);
        Edges.row(w, 0, 1);
    }

    static void p35_twoOrdersAreLeft() {
        WaterByLetters w = Checks.town(ONES);
        for (int i = 0; i < 6; i++) {
            w.saw(i, i + 1);
        }
        w.saw(5, 7);
        Edges.is("fits()", w.fits(), 2);
        Edges.is("ask()", w.ask(), 1);
        Edges.row(w, 6, 7);
    }

    static void p35_changesNothing() {
        Edges.question("ask()", WaterByLetters::ask);
    }

    // ---- promise 36: law

    private static final String FORTY = "1-".repeat(19) + "12";

    static void p36_anEmptyTextIsNone() {
        WaterByLetters w = Checks.townWithRule("a9", "0");
        Checks.text(w, "00000000066666666666").heat();
        Edges.is("law()", w.law(), 1 - 10);
        Edges.row(w, 1, 10);
    }

    static void p36_endsTooEarly() {
        Edges.fault("1+", -10002, LAW);
        Edges.fault("(", -10001, LAW);
        Edges.fault("-", -10001, LAW);
    }

    static void p36_aSignThatCannotStand() {
        Edges.fault("x", -10000, LAW);
        Edges.fault("1<2<3", -10003, LAW);
        Edges.fault("1234", -10003, LAW);
        Edges.fault("(((((1)))))", -10004, LAW);
    }

    static void p36_moreThan40Signs() {
        Edges.fault(FORTY + "3", -10040, LAW);
        Edges.fault("-".repeat(40) + "1", -10040, LAW);
        Edges.fault(FORTY.substring(0, 39) + "x1", -10039, LAW);
    }

    static void p36_fortySigns() {
        WaterByLetters w = Checks.text(Checks.town("a1"), FORTY);
        Edges.is("law()", w.law(), 10);
        Edges.row(w, 10, 0);
    }

    static void p36_tenDaysFromThisOneOn() {
        String[] heats = {"00000000010000000000", "00000000001000000000", "10000000000000000000"};
        int[] often = {1, 0, 1};
        for (int i = 0; i < heats.length; i++) {
            WaterByLetters w = Checks.townWithRule("a1", "1");
            Checks.text(w, heats[i]).heat();
            Edges.is("law() by " + heats[i], Checks.text(w, "1-h").law(), often[i]);
            Edges.row(w, often[i], 0);
        }
        WaterByLetters w = Checks.townWithRule("a1", "1");
        Checks.text(w, heats[2]).heat();
        w.days(10);
        Edges.is("on DAY 10", Checks.text(w, "1-h").law(), 0);
        w.days(1);
        Edges.is("on DAY 11", Checks.text(w, "1-h").law(), 1);
    }

    static void p36_bothRulesHaveTheSameDays() {
        WaterByLetters w = Checks.townWithRule("a1", "1-h");
        Checks.text(w, "00000000001111111111").heat();
        Edges.is("law()", Checks.text(w, "h").law(), 10);
        Edges.row(w, 10, 0);
        w.days(10);
        Edges.is("ten days on", Checks.text(w, "h").law(), -10);
        Edges.row(w, 0, 10);
    }

    static void p36_betterWorseLike() {
        WaterByLetters w = Checks.townWithRule("a5;b5", "5");
        Edges.is("better", Checks.text(w, "10").law(), -10);
        Edges.row(w, 0, 10);
        Edges.is("worse", Checks.text(w, "4").law(), 10);
        Edges.row(w, 20, 10);
        Edges.is("like", Checks.text(w, "9").law(), 0);
        Edges.row(w, 10, 10);
    }

    static void p36_withoutHouses() {
        WaterByLetters w = Checks.text(new WaterByLetters(), "0");
        Edges.is("law()", w.law(), 0);
        Edges.row(w, 0, 0);
    }

    static void p36_changesNothing() {
        Edges.questionWithText("7", LAW);
        Edges.questionWithText("", LAW);
    }

    // ---- promise 37: rests

    private static void rests(int v, int due, long x, long y) {
        WaterByLetters w = new WaterByLetters();
        Edges.is("rests(" + v + ")", w.rests(v), due);
        Edges.row(w, x, y);
    }

    static void p37_fewerThan0Cups() {
        Edges.refused("rests(-1)", -1, w -> w.rests(-1));
        Edges.refused("rests(MIN)", -1, w -> w.rests(MIN));
    }

    static void p37_moreThan18Cups() {
        Edges.refused("rests(19)", -1, w -> w.rests(19));
        Edges.refused("rests(MAX)", -1, w -> w.rests(MAX));
    }

    static void p37_noCups() {
        rests(0, 9, 0, 0);
    }

    static void p37_oneCup() {
        rests(1, 6, 1, 0);
    }

    static void p37_eighteenCups() {
        rests(18, 4, 8, 8);
    }

    static void p37_oneCupTooFewForBoth() {
        rests(17, 3, 8, 8);
    }

    static void p37_eachAsksForAtMost9() {
        rests(10, 3, 8, 2);
    }

    static void p37_changesNothing() {
        Edges.question("rests(7)", w -> w.rests(7));
    }

    // ---- promise 38: years

    private static void years(String houses, int seed, int n, int due, long first, long dry) {
        WaterByLetters w = Checks.townWithRule(houses, "0");
        Edges.is("years(" + seed + ", " + n + ") of " + houses, w.years(seed, n), due);
        Edges.row(w, first, dry);
    }

    static void p38_fewerThan1() {
        for (int n : new int[] {0, -1, MIN}) {
            Edges.refused("years(5, " + n + ")", -1, w -> w.years(5, n));
        }
    }

    static void p38_moreThan60() {
        for (int n : new int[] {61, MAX}) {
            Edges.refused("years(5, " + n + ")", -1, w -> w.years(5, n));
        }
    }

    static void p38_withoutHouses() {
        for (int seed : new int[] {0, 1, 6, MIN, MAX}) {
            years("", seed, 1, 0, -1, 0);
            years("", seed, 60, 0, -1, 0);
        }
        Edges.is("years(0, 0)", new WaterByLetters().years(0, 0), -1);
    }

    static void p38_onceAnd60Times() {
        years("a1", 0, 1, 1, 0, 1);
        years("a1", 0, 60, 34, 0, 34);
        years("a1", 1, 60, 34, 0, 34);
    }

    static void p38_draws0To2AreADay() {
        years("a1", 3, 1, 1, 0, 1);
        years("a1", 2, 1, 1, 0, 1);
        years("a1", 4, 1, 1, 0, 1);
    }

    static void p38_draw3IsAMarriage() {
        years("a1;b1;c1", 14, 1, 0, 1, 0);
        years("a1;b1;c1", 24, 1, 0, 1, 0);
    }

    static void p38_likeOnesAreNothing() {
        years("a1", 1, 3, 0, 0, 0);
        years("b1;a1", -4, 1, 0, 1, 0);
        years("a1", -9, 3, 2, 0, 2);
    }

    static void p38_draw4TurnsTheOrder() {
        years("a1;b1", 16, 1, 0, 1, 0);
        years("a1;b1", 16, 2, 0, 0, 0);
    }

    static void p38_drawsAreWithoutSign() {
        years("a1", 6, 1, 0, 0, 0);
        years("a1", -12, 1, 0, 0, 0);
        years("a1", MIN, 1, 0, 0, 0);
    }

    static void p38_seedsOfAnySign() {
        years("a1", -1, 1, 1, 0, 1);
        years("a1", MAX, 60, 39, 0, 39);
        years("a1", MIN, 60, 41, 0, 41);
    }

    static void p38_eightHouses() {
        years(ONES, 3, 1, 8, 0, 1);
        years(ONES, 13, 3, 24, 0, 3);
    }

    static void p38_theMostDryThen() {
        WaterByLetters w = Checks.townWithRule("a5;b5", "5");
        w.days(2);
        Edges.is("years(13, 3)", w.years(13, 3), 3);
        Edges.row(w, 0, 5);
    }

    static void p38_changesNothing() {
        Edges.question("years(16, 60)", w -> w.years(16, 60));
        Edges.question("years(1, 60)", w -> w.years(1, 60));
    }

    // ---- promise 39: keep

    static void p39_otherNumbersAreRefused() {
        for (int i : new int[] {-1, 3, MIN, MAX}) {
            Edges.refused("keep(" + i + ")", 0, w -> w.keep(i) ? 1 : 0);
        }
    }

    static void p39_threeAreKept() {
        WaterByLetters w = Checks.town("a1");
        for (int i = 0; i < 3; i++) {
            Edges.is("keep(" + i + ")", w.keep(i), true);
            w.days(1);
        }
        for (int i = 2; i >= 0; i--) {
            Edges.is("again(" + i + ")", w.again(i), true);
            Edges.is("count(1)", w.count(1), i);
        }
    }

    static void p39_keptAnew() {
        WaterByLetters w = Checks.town("a1");
        w.keep(1);
        w.days(3);
        Edges.is("keep(1)", w.keep(1), true);
        w.days(3);
        w.again(1);
        Edges.is("count(1)", w.count(1), 3);
    }

    static void p39_withoutHouses() {
        WaterByLetters w = new WaterByLetters();
        Edges.is("keep(0)", w.keep(0), true);
        Checks.text(w, "d2r").year();
        Edges.is("again(0)", w.again(0), true);
        Edges.is("count(1)", w.count(1), 0);
        Edges.is("count(6)", w.count(6), 0);
    }

    static void p39_forgetsNothingThatCanBeUndone() {
        WaterByLetters w = Checks.town("a1");
        w.days(1);
        w.keep(0);
        Edges.is("count(9)", w.count(9), 1);
        w.undo();
        Edges.is("count(1)", w.count(1), 0);
    }

    static void p39_leavesTheRow() {
        Edges.leavesRow("keep()", w -> w.keep(1) ? 1 : 0);
    }

    // ---- promise 40: again

    static void p40_otherNumbersAreRefused() {
        for (int i : new int[] {-1, 3, MIN, MAX}) {
            Edges.refused("again(" + i + ")", 0, w -> w.again(i) ? 1 : 0);
        }
    }

    static void p40_nothingKept() {
        Edges.refused("again(1)", 0, w -> w.again(1) ? 1 : 0);
        for (int i = 0; i < 3; i++) {
            Edges.is("again(" + i + ")", Checks.town("a1").again(i), false);
        }
    }

    static void p40_housesCameSince() {
        WaterByLetters w = Checks.town("a1");
        for (int i = 0; i < 3; i++) {
            w.keep(i);
        }
        w.days(1);
        Checks.text(w, "b1").houses();
        for (int i = 0; i < 3; i++) {
            Edges.is("again(" + i + ")", w.again(i), false);
        }
        Edges.is("count(0)", w.count(0), 2);
        Edges.is("count(1)", w.count(1), 1);
    }

    static void p40_keptBehindHousesThatCame() {
        WaterByLetters w = Checks.town("a1");
        w.keep(0);
        w.keep(1);
        Checks.text(w, "b1").houses();
        w.keep(1);
        w.days(1);
        Edges.is("again(0)", w.again(0), false);
        Edges.is("again(1)", w.again(1), true);
        Edges.is("count(1)", w.count(1), 0);
    }

    static void p40_emptyOrRefusedHousesDoNotCome() {
        WaterByLetters w = Checks.town("a1");
        w.keep(0);
        Checks.text(w, "").houses();
        Checks.text(w, "b").houses();
        Edges.is("again(0)", w.again(0), true);
    }

    static void p40_asOftenAsOneLikes() {
        WaterByLetters w = Checks.town("b1;a1");
        w.keep(0);
        for (int i = 0; i < 3; i++) {
            Checks.text(w, "d1rm01").year();
            Edges.is("again(0)", w.again(0), true);
            Edges.is("count(1)", w.count(1), 0);
            Edges.is("count(5)", w.count(5), 0);
            Edges.is("letter(0, 0)", w.letter(0, 0), 1);
            Edges.is("count(6)", w.count(6), 0);
        }
    }

    static void p40_onlyTheseAreAsTheyWere() {
        WaterByLetters w = Checks.town("b1;a1");
        w.keep(0);
        w.sheet(2, 2, 4, 1);
        Checks.text(w, "12").heat();
        Checks.text(w, "h*9").rule();
        w.saw(0, 1);
        w.again(0);
        Edges.is("count(2)", w.count(2), 9);
        Edges.is("count(3)", w.count(3), 9);
        Edges.is("count(7)", w.count(7), 2);
        Edges.is("count(8)", w.count(8), 1);
    }

    static void p40_leavesTheRow() {
        Edges.leavesRow("again()", w -> w.again(2) ? 1 : 0);
    }

    // ---- promise 41: count

    static void p41_anotherWhat() {
        for (int what : new int[] {-1, 12, -100, MIN, MAX}) {
            Edges.refused("count(" + what + ")", -100, w -> w.count(what));
        }
    }

    static void p41_withoutHouses() {
        int[] due = {0, 0, 20, 0, 0, 0, 0, 1, 0, 0, 0, 0};
        WaterByLetters w = new WaterByLetters();
        for (int what = 0; what < due.length; what++) {
            Edges.is("count(" + what + ")", w.count(what), due[what]);
        }
    }

    static void p41_theMostOfEach() {
        WaterByLetters w = Checks.townWithRule("a9;b9;c9;d9;e9;f9;g9;h9", "999");
        Checks.text(w, "0".repeat(20)).heat();
        Checks.text(w, "r").year();
        for (int i = 0; i < 15; i++) {
            w.days(60);
        }
        for (int i = 0; i < 8; i++) {
            w.saw(0, 1);
        }
        w.fits();
        Checks.text(w, "x".repeat(80));
        int[] due = {8, 900, 99, 72, 0, 900 * 72, 7, 20, 8, 15, 8, 80};
        for (int what = 0; what < due.length; what++) {
            Edges.is("count(" + what + ")", w.count(what), due[what]);
        }
    }

    static void p41_dryOfAllTogether() {
        WaterByLetters w = Checks.townWithRule("a9;b9", "10");
        w.days(3);
        Edges.is("count(4)", w.count(4), 3);
        Edges.is("count(5)", w.count(5), 30);
        Checks.text(w, "8").rule();
        w.days(2);
        Edges.is("count(4)", w.count(4), 7);
        Edges.is("count(5)", w.count(5), 46);
    }

    static void p41_changesNothing() {
        for (int what = 0; what < 12; what++) {
            int asked = what;
            WaterByLetters one = Edges.lived();
            one.count(asked);
            Edges.alike("count(" + what + ")", one, Edges.lived());
        }
    }

    // ---- promise 42: row

    static void p42_ofANewObject() {
        WaterByLetters w = new WaterByLetters();
        for (int i : new int[] {-1, 0, 1, MIN, MAX}) {
            Edges.throwsNoSuch("row(" + i + ")", () -> w.row(i));
        }
    }

    static void p42_noSuchNumber() {
        WaterByLetters w = Checks.town(Edges.FOUR);
        w.yields(0);
        Edges.is("row(0)", w.row(0), 3);
        Edges.is("row(1)", w.row(1), 0);
        for (int i : new int[] {-1, 2, 8, MIN, MAX}) {
            Edges.throwsNoSuch("row(" + i + ")", () -> w.row(i));
        }
    }

    static void p42_eightNumbers() {
        WaterByLetters w = new WaterByLetters();
        w.fits();
        Edges.is("row(7)", w.row(7), 7);
        Edges.throwsNoSuch("row(8)", () -> w.row(8));
    }

    static void p42_aShorterRowTakesThePlaceOfALongerOne() {
        WaterByLetters w = Checks.town("a1");
        w.fits();
        w.dry(0, 2);
        Edges.is("row(0)", w.row(0), 2);
        Edges.throwsNoSuch("row(1)", () -> w.row(1));
    }

    static void p42_anEmptyRow() {
        WaterByLetters w = new WaterByLetters();
        w.fits();
        w.book();
        Edges.throwsNoSuch("row(0)", () -> w.row(0));
    }

    static void p42_callsThatTellNoRowLeaveIt() {
        Edges.leavesRow("sign()", w -> w.sign(0));
        Edges.leavesRow("end()", w -> w.end(0) ? 1 : 0);
        Edges.leavesRow("house()", w -> w.house(0, 5));
        Edges.leavesRow("letter()", w -> w.letter(0, 0));
        Edges.leavesRow("count()", w -> w.count(2));
        Edges.leavesRow("row()", w -> w.row(0));
    }
}
