import java.util.function.ToLongFunction;

/** Boundary cases of promises 10 to 20, one test each: orders, names, marriages, days, years, undoing; a day. */
public final class EdgesOfDaysTest {
    private static final ToLongFunction<WaterByLetters> ORDER = WaterByLetters::order;
    private static final ToLongFunction<WaterByLetters> YEAR = WaterByLetters::year;
    private static final String FOUR = Edges.FOUR;
    private static final int MIN = Integer.MIN_VALUE;
    private static final int MAX = Integer.MAX_VALUE;

    public static void main(String[] args) {
        Edges.run(EdgesOfDaysTest.class, 10, 20);
    }

    // ---- promise 10: order

    static void p10_noSigns() {
        Edges.fault("", -1, ORDER);
    }

    static void p10_endsTooEarly() {
        Edges.fault("a", -2, ORDER);
        Edges.fault("abcdefg", -8, ORDER);
        Edges.fault("hgfe", -5, ORDER);
    }

    static void p10_aLetterThatIsThereAlready() {
        Edges.fault("aa", -2, ORDER);
        Edges.fault("abcdefga", -8, ORDER);
        Edges.fault("hgfh", -4, ORDER);
    }

    static void p10_aNinthSign() {
        Edges.fault("abcdefgha", -9, ORDER);
        Edges.fault("abcdefghi", -9, ORDER);
        Edges.fault("hgfedcba;", -9, ORDER);
        Edges.fault("abcdefgh".repeat(10), -9, ORDER);
    }

    static void p10_aSignThatIsNoLetter() {
        Edges.fault("i", -1, ORDER);
        Edges.fault("`", -1, ORDER);
        Edges.fault("abcdefgi", -8, ORDER);
        Edges.fault("Abcdefgh", -1, ORDER);
        Edges.fault("abc1efgh", -4, ORDER);
    }

    static void p10_thePlaceOfTheLetterThatWasTheFirst() {
        WaterByLetters w = new WaterByLetters();
        Edges.is("the last", Checks.text(w, "bcdefgha").order(), 7);
        Edges.is("the first", Checks.text(w, "bacdefgh").order(), 0);
        Edges.is("between", Checks.text(w, "cdebafgh").order(), 3);
        Edges.is("cdebafgh", Edges.orderOf(w).equals("cdebafgh"), true);
    }

    static void p10_theSameOrderIsDone() {
        WaterByLetters w = new WaterByLetters();
        Edges.is("order()", Checks.text(w, "abcdefgh").order(), 0);
        Edges.is("count(9)", w.count(9), 1);
        Edges.is("count(11)", w.count(11), 0);
    }

    static void p10_leavesTheRow() {
        Edges.leavesRow("order()", w -> Checks.text(w, "hgfedcba").order());
    }

    // ---- promise 11: name

    static void p11_noSuchHouseIsAskedFirst() {
        for (int house : new int[] {-1, 4, 8, MIN, MAX}) {
            Edges.fault("abc", -100, w -> w.name(house));
            Edges.fault("x", -100, w -> w.name(house));
            Edges.fault("", -100, w -> w.name(house));
        }
    }

    static void p11_withoutHouses() {
        WaterByLetters w = Checks.text(new WaterByLetters(), "a");
        Edges.is("name(0)", w.name(0), -100);
        Edges.is("count(11)", w.count(11), 0);
    }

    static void p11_noSigns() {
        Edges.fault("", -1, w -> w.name(0));
    }

    static void p11_aSeventhSign() {
        Edges.fault("abcdefa", -7, w -> w.name(0));
        Edges.fault("abcdefx", -7, w -> w.name(0));
        Edges.fault("aaaaaaaaaaaa", -7, w -> w.name(0));
    }

    static void p11_aSignThatIsNoLetter() {
        Edges.fault("x", -1, w -> w.name(0));
        Edges.fault("ai", -2, w -> w.name(0));
        Edges.fault("ab3", -3, w -> w.name(0));
        Edges.fault("abcde;", -6, w -> w.name(0));
    }

    static void p11_namesOf1And6Letters() {
        WaterByLetters w = Checks.town("b1;c1");
        Edges.is("aaaaaa", Checks.text(w, "aaaaaa").name(1), 0);
        Edges.is("house(1, 0)", w.house(1, 0), 6);
        Edges.is("h", Checks.text(w, "h").name(1), 1);
        Edges.is("house(1, 0)", w.house(1, 0), 1);
    }

    static void p11_theNameThatItHas() {
        WaterByLetters w = Checks.town("b1;a1");
        Edges.is("name(0)", Checks.text(w, "b").name(0), 1);
        Edges.is("count(9)", w.count(9), 1);
    }

    static void p11_likeNamesByTheirNumbers() {
        WaterByLetters w = Checks.town("b1;b1;b1");
        Edges.is("name(2)", Checks.text(w, "b").name(2), 2);
        Edges.is("name(0)", Checks.text(w, "b").name(0), 0);
    }

    static void p11_leavesTheRow() {
        Edges.leavesRow("name()", w -> Checks.text(w, "h").name(0));
    }

    // ---- promise 12: marry

    static void p12_noSuchHouses() {
        for (int other : new int[] {-1, 4, 8, MIN, MAX}) {
            Edges.refused("marry(" + other + ", 0)", -100, w -> w.marry(other, 0));
            Edges.refused("marry(0, " + other + ")", -100, w -> w.marry(0, other));
            Edges.refused("marry(" + other + ", " + other + ")", -100, w -> w.marry(other, other));
        }
        Edges.is("without houses", new WaterByLetters().marry(0, 1), -100);
    }

    static void p12_likeOnes() {
        for (int house = 0; house < 4; house++) {
            int asked = house;
            Edges.refused("marry(" + house + ", " + house + ")", -100, w -> w.marry(asked, asked));
        }
    }

    static void p12_climbsFallsStays() {
        WaterByLetters w = Checks.town("a1;b1;c1;d1");
        Edges.is("climbs", w.marry(3, 0), 2);
        Edges.is("falls", w.marry(0, 2), -2);
        Edges.is("stays", Checks.town("a1;b1").marry(1, 0), 0);
    }

    static void p12_likeNamesChangeNothingButCanBeUndone() {
        WaterByLetters w = Checks.town("a1;a1");
        Edges.is("marry(1, 0)", w.marry(1, 0), 0);
        Edges.is("count(9)", w.count(9), 1);
    }

    static void p12_theOtherOneStays() {
        WaterByLetters w = Checks.town("abc1;h2");
        w.marry(1, 0);
        Edges.is("house(0, 0)", w.house(0, 0), 3);
        Edges.is("house(1, 0)", w.house(1, 0), 3);
        Edges.is("house(1, 1)", w.house(1, 1), 2);
        w.undo();
        w.marry(0, 1);
        Edges.is("house(0, 0)", w.house(0, 0), 1);
        Edges.throwsNoSuch("letter(0, 1)", () -> w.letter(0, 1));
    }

    static void p12_leavesTheRow() {
        Edges.leavesRow("marry()", w -> w.marry(0, 1));
    }

    // ---- promise 13: days

    static void p13_fewerThan0AreRefused() {
        Edges.refused("days(-1)", -1, w -> w.days(-1));
        Edges.refused("days(MIN)", -1, w -> w.days(MIN));
    }

    static void p13_moreThan60AreRefused() {
        Edges.refused("days(61)", -1, w -> w.days(61));
        Edges.refused("days(MAX)", -1, w -> w.days(MAX));
    }

    static void p13_noDays() {
        WaterByLetters w = Checks.town(FOUR);
        w.days(1);
        Edges.is("days(0)", w.days(0), 0);
        Edges.row(w, 0, 0);
        Edges.is("count(1)", w.count(1), 1);
        Edges.is("count(9)", w.count(9), 2);
    }

    static void p13_sixtyDays() {
        WaterByLetters w = Checks.town(FOUR);
        Edges.is("days(60)", w.days(60), 60);
        Edges.row(w, 8, 0);
        Edges.is("count(1)", w.count(1), 60);
        Edges.is("house(3, 2)", w.house(3, 2), 60);
        Edges.is("house(3, 3)", w.house(3, 3), 120);
    }

    static void p13_withoutHouses() {
        WaterByLetters w = new WaterByLetters();
        Edges.is("days(3)", w.days(3), 0);
        Edges.row(w, 0, 60);
        Edges.is("count(1)", w.count(1), 3);
    }

    static void p13_justEnoughIsNotDry() {
        WaterByLetters w = Checks.townWithRule("a4;b5", "9");
        Edges.is("days(1)", w.days(1), 0);
        Edges.row(w, 0, 0);
    }

    static void p13_oneCupTooFew() {
        WaterByLetters w = Checks.townWithRule("a4;b5", "8");
        Edges.is("days(1)", w.days(1), 1);
        Edges.row(w, 2, 0);
        Edges.is("house(1, 3)", w.house(1, 3), 4);
    }

    static void p13_noWater() {
        WaterByLetters w = Checks.townWithRule("a4;b5", "0");
        Edges.is("days(2)", w.days(2), 4);
        Edges.row(w, 3, 0);
        Edges.is("count(5)", w.count(5), 0);
    }

    static void p13_whatIsLeftIsGone() {
        WaterByLetters w = Checks.townWithRule("a5", "9*(d=0)+3");
        Edges.is("days(2)", w.days(2), 1);
        Edges.row(w, 1, 7);
        Edges.is("house(0, 3)", w.house(0, 3), 8);
    }

    static void p13_whichWentDryOnAnyOfTheseDays() {
        WaterByLetters w = Checks.townWithRule("a4;b5", "4*(d=1)+4+(d=1)");
        Edges.is("days(2)", w.days(2), 1);
        Edges.row(w, 2, 0);
        w.undo();
        Checks.text(w, "8-4*(d=1)-4*(d=2)").rule();
        Edges.is("days(1)", w.days(1), 1);
        Edges.row(w, 2, 0);
    }

    static void p13_cupsLeftOnTheseDaysAlone() {
        WaterByLetters w = Checks.townWithRule("a4", "6");
        w.days(2);
        Edges.row(w, 0, 4);
        w.days(3);
        Edges.row(w, 0, 6);
        w.days(0);
        Edges.row(w, 0, 0);
    }

    static void p13_onlyTheseDaysCount() {
        WaterByLetters w = Checks.townWithRule("a5;b5", "5*(d>1)+5");
        w.days(2);
        Edges.is("days(1)", w.days(1), 0);
        Edges.row(w, 0, 0);
        Edges.is("house(1, 2)", w.house(1, 2), 2);
    }

    // ---- promise 14: year

    private static void year(String text, int due, long refused, long dry) {
        WaterByLetters w = Checks.text(Checks.town(FOUR), text);
        Edges.is("year() " + text, w.year(), due);
        Edges.row(w, refused, dry);
        Edges.is("count(11)", w.count(11), 0);
    }

    static void p14_anEmptyTextTellsNothing() {
        year("", 0, 0, 0);
        Edges.questionWithText("", YEAR);
        WaterByLetters w = Checks.town(FOUR);
        w.days(2);
        Edges.is("year()", w.year(), 0);
        Edges.row(w, 0, 2);
    }

    static void p14_endsTooEarly() {
        Edges.fault("d", -2, YEAR);
        Edges.fault("m", -2, YEAR);
        Edges.fault("m1", -3, YEAR);
        Edges.fault("d1rd", -5, YEAR);
        Edges.fault("sm0", -4, YEAR);
    }

    static void p14_aSignThatBeginsNoAct() {
        for (String text : new String[] {"x", "1", "D1", "q", "t", "R", " r"}) {
            Edges.fault(text, -1, YEAR);
        }
        Edges.fault("d12", -3, YEAR);
        Edges.fault("m012", -4, YEAR);
        Edges.fault("rr;", -3, YEAR);
    }

    static void p14_aSignThatIsNoDigit() {
        Edges.fault("dr", -2, YEAR);
        Edges.fault("d/", -2, YEAR);
        Edges.fault("d:", -2, YEAR);
        Edges.fault("mr", -2, YEAR);
        Edges.fault("m1r", -3, YEAR);
    }

    static void p14_nothingIsDoneIfASignCannotStand() {
        Edges.fault("d3rsm01x", -8, YEAR);
        Edges.fault("rd9d", -5, YEAR);
    }

    static void p14_sixtySigns() {
        year("r".repeat(60), 60, 0, 0);
        year("d9".repeat(30), 30, 0, 270);
        year("m01".repeat(20), 20, 0, 0);
    }

    static void p14_moreThan60OfWhich60CouldEnd() {
        Edges.fault("r".repeat(61), -61, YEAR);
        Edges.fault("r".repeat(60) + "x", -61, YEAR);
        Edges.fault("d1".repeat(40), -61, YEAR);
    }

    static void p14_moreThan60OfWhich60CouldGoOn() {
        Edges.fault("r".repeat(59) + "d1", -61, YEAR);
        Edges.fault("r".repeat(59) + "m01", -61, YEAR);
        Edges.fault("r".repeat(58) + "m01", -61, YEAR);
        Edges.fault("r".repeat(59) + "dx", -61, YEAR);
    }

    static void p14_aFaultAmongTheFirst60OfMore() {
        Edges.fault("x" + "r".repeat(60), -1, YEAR);
        Edges.fault("r".repeat(59) + "xr", -60, YEAR);
    }

    static void p14_sixtySignsThatEndTooEarly() {
        Edges.fault("r".repeat(59) + "d", -61, YEAR);
        Edges.fault("r".repeat(58) + "m1", -61, YEAR);
    }

    static void p14_aMarriageOfNoSuchHouseIsRefused() {
        year("d1m40d1", 1, 1, 1);
        year("d2m04d1", 1, 1, 2);
        year("rm99r", 1, 1, 0);
        year("d1sm08", 2, 1, 1);
    }

    static void p14_aMarriageOfLikeOnesIsRefused() {
        year("d1m11d1", 1, 1, 1);
        year("m00", 0, 1, 0);
    }

    static void p14_aMarriageThatIsDone() {
        WaterByLetters w = Checks.text(Checks.town("a1;bcd1"), "m01");
        Edges.is("year()", w.year(), 1);
        Edges.row(w, 0, 0);
        Edges.is("house(0, 0)", w.house(0, 0), 3);
        Edges.is("letter(0, 2)", w.letter(0, 2), 3);
    }

    static void p14_nothingIsDoneBehindARefusedAct() {
        WaterByLetters w = Checks.text(Checks.town(FOUR), "d1m00d2rm01");
        w.year();
        Edges.is("count(1)", w.count(1), 1);
        Edges.is("count(6)", w.count(6), 0);
        Edges.is("letter(0, 0)", w.letter(0, 0), 1);
    }

    static void p14_theFirstActIsRefused() {
        year("m77d1", 0, 1, 0);
        Edges.questionWithText("m77d1", YEAR);
    }

    static void p14_noDaysAreAnAct() {
        year("d0", 1, 0, 0);
        year("d0d0", 2, 0, 0);
    }

    static void p14_turnedRound() {
        WaterByLetters w = Checks.text(new WaterByLetters(), "r");
        w.year();
        Edges.is("hgfedcba", Edges.orderOf(w).equals("hgfedcba"), true);
        Checks.text(w, "r").year();
        Edges.is("abcdefgh", Edges.orderOf(w).equals("abcdefgh"), true);
    }

    static void p14_theFirstLetterBecomesTheLast() {
        WaterByLetters w = Checks.text(new WaterByLetters(), "s");
        w.year();
        Edges.is("bcdefgha", Edges.orderOf(w).equals("bcdefgha"), true);
        Checks.text(w, "sssssss").year();
        Edges.is("abcdefgh", Edges.orderOf(w).equals("abcdefgh"), true);
    }

    static void p14_dryOfAllTogetherThen() {
        WaterByLetters w = Checks.townWithRule("a5;b5;c5", "5");
        w.days(1);
        Checks.text(w, "d2").year();
        Edges.row(w, 0, 6);
    }

    static void p14_withoutHouses() {
        WaterByLetters w = Checks.text(new WaterByLetters(), "d1rm01");
        Edges.is("year()", w.year(), 2);
        Edges.row(w, 1, 0);
        Edges.is("count(1)", w.count(1), 1);
    }

    // ---- promise 15: undo

    /** What an act changes is as ahead of it, once it is undone. */
    private static void undone(String what, ToLongFunction<WaterByLetters> act) {
        WaterByLetters one = Edges.lived();
        int before = one.count(9);
        act.applyAsLong(one);
        Edges.is("count(9) behind " + what, one.count(9), before + 1);
        Edges.is("undo() of " + what, one.undo(), before);
        one.book();
        Edges.alike(what + " undone", Checks.text(one, ""), Checks.text(Edges.lived(), ""));
    }

    static void p15_eachActIsUndone() {
        undone("order()", w -> Checks.text(w, "hgfedcba").order());
        undone("name()", w -> Checks.text(w, "hhhhhh").name(1));
        undone("marry()", w -> w.marry(0, 2));
        undone("days()", w -> w.days(7));
        undone("days(0)", w -> w.days(0));
        undone("year()", w -> Checks.text(w, "d1rm10sd2").year());
    }

    static void p15_noneIsLeft() {
        WaterByLetters w = Checks.town(FOUR);
        Edges.is("undo()", w.undo(), -1);
        Edges.alike("undo() of none", w, Checks.town(FOUR));
        w = Checks.town(FOUR);
        w.days(1);
        Edges.is("undo()", w.undo(), 0);
        Edges.is("undo() once more", w.undo(), -1);
        Edges.is("count(1)", w.count(1), 0);
    }

    static void p15_fifteenAreKept() {
        WaterByLetters w = Checks.town(FOUR);
        for (int i = 1; i <= 15; i++) {
            w.days(1);
            Edges.is("count(9)", w.count(9), i);
        }
        for (int i = 14; i >= 0; i--) {
            Edges.is("undo()", w.undo(), i);
            Edges.is("count(1)", w.count(1), i);
        }
        Edges.is("undo()", w.undo(), -1);
    }

    static void p15_theSixteenthForgetsTheFirst() {
        WaterByLetters w = Checks.town(FOUR);
        for (int i = 0; i < 16; i++) {
            w.days(1);
        }
        Edges.is("count(9)", w.count(9), 15);
        for (int i = 14; i >= 0; i--) {
            Edges.is("undo()", w.undo(), i);
        }
        Edges.is("count(1)", w.count(1), 1);
        Edges.is("undo()", w.undo(), -1);
        Edges.is("count(1)", w.count(1), 1);
    }

    static void p15_theLatestOnesAreKept() {
        WaterByLetters w = Checks.town(FOUR);
        for (int i = 0; i < 40; i++) {
            w.days(1);
        }
        for (int i = 0; i < 10; i++) {
            w.undo();
        }
        Edges.is("count(1)", w.count(1), 30);
        Edges.is("count(9)", w.count(9), 5);
        for (int i = 0; i < 12; i++) {
            w.days(2);
        }
        Edges.is("count(9)", w.count(9), 15);
        for (int i = 1; i <= 12; i++) {
            w.undo();
            Edges.is("count(1)", w.count(1), 54 - 2 * i);
        }
        for (int i = 1; i <= 3; i++) {
            w.undo();
            Edges.is("count(1)", w.count(1), 30 - i);
        }
        Edges.is("undo()", w.undo(), -1);
    }

    static void p15_refusedOnesAreNotKept() {
        WaterByLetters w = Checks.town(FOUR);
        w.days(-1);
        w.days(61);
        w.marry(0, 0);
        w.marry(0, 4);
        Checks.text(w, "abc").order();
        Checks.text(w, "").name(0);
        Checks.text(w, "a").name(4);
        Checks.text(w, "d1x").year();
        Edges.is("count(9)", w.count(9), 0);
    }

    static void p15_aYearOfWhichNothingWasDoneIsNotKept() {
        WaterByLetters w = Checks.town(FOUR);
        w.year();
        Checks.text(w, "m00d1").year();
        Edges.is("count(9)", w.count(9), 0);
    }

    static void p15_aYearOfWhichOneActWasDoneIsKeptAsOne() {
        WaterByLetters w = Checks.town(FOUR);
        Checks.text(w, "d1m00d1").year();
        Edges.is("count(9)", w.count(9), 1);
        Checks.text(w, "d1rsm01d1").year();
        Edges.is("count(9)", w.count(9), 2);
        Edges.is("undo()", w.undo(), 1);
        Edges.is("count(1)", w.count(1), 1);
        Edges.is("undo()", w.undo(), 0);
        Edges.is("count(1)", w.count(1), 0);
    }

    static void p15_housesForgetThem() {
        WaterByLetters w = Checks.town("a1");
        w.days(1);
        Checks.text(w, "b1").houses();
        Edges.is("count(9)", w.count(9), 0);
        Edges.is("undo()", w.undo(), -1);
        Edges.is("count(1)", w.count(1), 1);
        w.days(2);
        Edges.is("undo() behind them", w.undo(), 0);
        Edges.is("count(1)", w.count(1), 1);
    }

    static void p15_emptyHousesDoNotForgetThem() {
        WaterByLetters w = Checks.town("a1");
        w.days(1);
        Checks.text(w, "").houses();
        Edges.is("count(9)", w.count(9), 1);
        Edges.is("undo()", w.undo(), 0);
        Edges.is("count(1)", w.count(1), 0);
    }

    static void p15_refusedHousesDoNotForgetThem() {
        WaterByLetters w = Checks.town("a1");
        w.days(1);
        Checks.text(w, "b").houses();
        Edges.is("count(9)", w.count(9), 1);
        Edges.is("undo()", w.undo(), 0);
    }

    static void p15_againForgetsThem() {
        WaterByLetters w = Checks.town("a1");
        w.keep(0);
        w.days(1);
        w.again(0);
        Edges.is("count(9)", w.count(9), 0);
        Edges.is("undo()", w.undo(), -1);
    }

    static void p15_aRefusedAgainDoesNotForgetThem() {
        WaterByLetters w = Checks.town("a1");
        w.days(1);
        w.again(0);
        w.again(3);
        Edges.is("count(9)", w.count(9), 1);
        Edges.is("undo()", w.undo(), 0);
    }

    static void p15_otherCallsAreNotUndone() {
        WaterByLetters w = Checks.town(FOUR);
        w.days(1);
        w.sheet(2, 4, 2, 1);
        Checks.text(w, "12").heat();
        Checks.text(w, "h*5").rule();
        w.saw(0, 1);
        w.keep(0);
        Edges.is("count(9)", w.count(9), 1);
        w.undo();
        Edges.is("count(1)", w.count(1), 0);
        Edges.is("count(2)", w.count(2), 5);
        Edges.is("count(3)", w.count(3), 2 + 3 + 4 + 5);
        Edges.is("count(7)", w.count(7), 2);
        Edges.is("count(8)", w.count(8), 1);
        Edges.is("again(0)", w.again(0), true);
        Edges.is("count(1)", w.count(1), 1);
    }

    static void p15_leavesTheRow() {
        Edges.leavesRow("undo()", WaterByLetters::undo);
    }

    // ---- promise 16: book

    static void p16_withoutHouses() {
        WaterByLetters w = new WaterByLetters();
        w.yields(0);
        Edges.is("book()", w.book(), 0);
        Edges.row(w);
    }

    static void p16_eightHouses() {
        WaterByLetters w = Checks.town("h1;g1;f1;e1;d1;c1;b1;a1");
        Edges.is("book()", w.book(), 8);
        Edges.row(w, 7, 6, 5, 4, 3, 2, 1, 0);
    }

    static void p16_theBeginningOfANameIsAheadOfIt() {
        WaterByLetters w = Checks.town("abcdef1;abcde1;abc1;ab1;a1;b1");
        w.book();
        Edges.row(w, 4, 3, 2, 1, 0, 5);
        Checks.text(w, "hgfedcba").order();
        w.book();
        Edges.row(w, 5, 4, 3, 2, 1, 0);
    }

    static void p16_likeNamesByTheirNumbers() {
        WaterByLetters w = Checks.town("ab1;a1;ab1;a1;ab1");
        w.book();
        Edges.row(w, 1, 3, 0, 2, 4);
        Checks.text(w, "hgfedcba").order();
        w.book();
        Edges.row(w, 1, 3, 0, 2, 4);
    }

    static void p16_aLongerNameIsAheadByItsFirstLetters() {
        WaterByLetters w = Checks.town("b1;ah1;ahhhhh1;ba1");
        w.book();
        Edges.row(w, 1, 2, 0, 3);
    }

    static void p16_theLastOfSixLettersTells() {
        WaterByLetters w = Checks.town("aaaaah1;aaaaaa1;haaaaa1");
        w.book();
        Edges.row(w, 1, 0, 2);
        Checks.text(w, "hgfedcba").order();
        w.book();
        Edges.row(w, 2, 0, 1);
    }

    static void p16_changesNothing() {
        Edges.question("book()", WaterByLetters::book);
    }

    // ---- promise 17: yields

    static void p17_fewerThan0() {
        Edges.refused("yields(-1)", -1, w -> w.yields(-1));
        Edges.refused("yields(MIN)", -1, w -> w.yields(MIN));
    }

    static void p17_moreThan99() {
        Edges.refused("yields(100)", -1, w -> w.yields(100));
        Edges.refused("yields(MAX)", -1, w -> w.yields(MAX));
    }

    static void p17_thisDayAndThe99th() {
        WaterByLetters w = Checks.townWithRule("a4", "d");
        w.days(5);
        Edges.is("yields(0)", w.yields(0), 5);
        Edges.row(w, 1, 1);
        Edges.is("yields(99)", w.yields(99), 4);
        Edges.row(w, 1, 0);
        Edges.is("yields(98)", w.yields(98), 3);
        Edges.row(w, 0, 0);
    }

    static void p17_withoutHouses() {
        WaterByLetters w = new WaterByLetters();
        Edges.is("yields(0)", w.yields(0), 20);
        Edges.row(w, 0, 20);
    }

    static void p17_noWater() {
        WaterByLetters w = Checks.townWithRule(FOUR, "0");
        Edges.is("yields(0)", w.yields(0), 0);
        Edges.row(w, 0, 0);
    }

    static void p17_justEnough() {
        WaterByLetters w = Checks.townWithRule(FOUR, "21");
        w.yields(0);
        Edges.row(w, 4, 0);
        Checks.text(w, "20").rule();
        w.yields(0);
        Edges.row(w, 3, 0);
        Checks.text(w, "22").rule();
        w.yields(0);
        Edges.row(w, 4, 1);
    }

    static void p17_changesNothing() {
        Edges.question("yields(7)", w -> w.yields(7));
    }

    // ---- promise 18: stops

    static void p18_none() {
        Edges.is("just enough", Checks.townWithRule(FOUR, "21").stops(), -2);
        Edges.is("more than enough", Checks.townWithRule(FOUR, "99").stops(), -2);
        Edges.is("without houses", new WaterByLetters().stops(), -2);
        Edges.is("without houses and water", Checks.townWithRule("", "0").stops(), -2);
        Edges.is("none of eight", Checks.townWithRule(Edges.EIGHT, "36").stops(), -2);
    }

    static void p18_oneCupTooFew() {
        WaterByLetters w = Checks.townWithRule(FOUR, "20");
        Edges.is("stops()", w.stops(), 3);
        Edges.row(w, 1, 2);
    }

    static void p18_nothingLeftForIt() {
        WaterByLetters w = Checks.townWithRule(FOUR, "9");
        Edges.is("stops()", w.stops(), 1);
        Edges.row(w, 0, 0);
    }

    static void p18_noWater() {
        WaterByLetters w = Checks.townWithRule("h5;g5", "0");
        Edges.is("stops()", w.stops(), 1);
        Edges.row(w, 6, 0);
    }

    static void p18_changesNothing() {
        Edges.question("stops()", WaterByLetters::stops);
    }

    // ---- promise 19: dry

    static void p19_noSuchHouse() {
        for (int house : new int[] {-1, 4, 8, MIN, MAX}) {
            Edges.refused("dry(" + house + ", 1)", -1, w -> w.dry(house, 1));
        }
        Edges.is("without houses", new WaterByLetters().dry(0, 1), -1);
    }

    static void p19_fewerThan0Days() {
        Edges.refused("dry(0, -1)", -1, w -> w.dry(0, -1));
        Edges.refused("dry(0, MIN)", -1, w -> w.dry(0, MIN));
    }

    static void p19_moreThan60Days() {
        Edges.refused("dry(0, 61)", -1, w -> w.dry(0, 61));
        Edges.refused("dry(0, MAX)", -1, w -> w.dry(0, MAX));
    }

    static void p19_noDays() {
        WaterByLetters w = Checks.townWithRule(FOUR, "0");
        w.days(3);
        Edges.is("dry(0, 0)", w.dry(0, 0), 0);
        Edges.row(w, 0);
    }

    static void p19_sixtyDays() {
        WaterByLetters w = Checks.town(FOUR);
        w.days(3);
        Edges.is("dry(3, 60)", w.dry(3, 60), 60);
        Edges.row(w, 120);
        Edges.is("dry(2, 60)", w.dry(2, 60), 0);
        Edges.row(w, 540);
    }

    static void p19_justEnoughIsNotDry() {
        WaterByLetters w = Checks.townWithRule("a4;b5", "9-(d=1)");
        Edges.is("dry(1, 1)", w.dry(1, 1), 0);
        Edges.row(w, 5);
        Edges.is("dry(1, 2)", w.dry(1, 2), 1);
        Edges.row(w, 9);
    }

    static void p19_changesNothing() {
        Edges.question("dry(0, 9)", w -> w.dry(0, 9));
    }

    // ---- promise 20: waits

    static void p20_withoutAny() {
        for (String houses : new String[] {"", FOUR}) {
            WaterByLetters w = Checks.townWithRule(houses, "0");
            Edges.is("waits()", w.waits(), 0);
            Edges.row(w, 0, 0);
        }
        WaterByLetters none = new WaterByLetters();
        Edges.is("without houses", none.waits(), 0);
        Edges.row(none, 0, 0);
    }

    static void p20_theOnlyOneDoesNotWait() {
        WaterByLetters w = Checks.town("a9");
        Edges.is("waits()", w.waits(), 0);
        Edges.row(w, 0, 0);
    }

    static void p20_whoDrinksNothingDoesNotWait() {
        WaterByLetters w = Checks.townWithRule(FOUR, "9");
        Edges.is("waits()", w.waits(), 0);
        Edges.row(w, 0, 0);
    }

    static void p20_whoDrinksOneCupWaits() {
        WaterByLetters w = Checks.townWithRule(FOUR, "10");
        Edges.is("waits()", w.waits(), 9);
        Edges.row(w, 1, 9);
    }

    static void p20_allDrinkTheirFill() {
        WaterByLetters w = Checks.townWithRule(FOUR, "99");
        Edges.is("waits()", w.waits(), 9 + 13 + 18);
        Edges.row(w, 3 + 7 + 12, 18);
    }

    static void p20_eightHouses() {
        WaterByLetters w = Checks.townWithRule("a8;b7;c6;d5;e4;f3;g2;h1", "99");
        Edges.is("waits()", w.waits(), 8 + 15 + 21 + 26 + 30 + 33 + 35);
        Edges.row(w, 1 + 3 + 6 + 10 + 15 + 21 + 28, 35);
    }

    static void p20_changesNothing() {
        Edges.question("waits()", WaterByLetters::waits);
    }
}
