import java.util.function.ToLongFunction;

/** Boundary cases of promises 1 to 9, one test each: a new object, texts, houses, heat, the rule, sheets. */
public final class EdgesOfHousesTest {
    private static final ToLongFunction<WaterByLetters> HOUSES = WaterByLetters::houses;
    private static final ToLongFunction<WaterByLetters> HEAT = WaterByLetters::heat;
    private static final ToLongFunction<WaterByLetters> RULE = WaterByLetters::rule;
    private static final int MIN = Integer.MIN_VALUE;
    private static final int MAX = Integer.MAX_VALUE;

    public static void main(String[] args) {
        Edges.run(EdgesOfHousesTest.class, 1, 9);
    }

    // ---- promise 1: a new object

    static void p01_theOrderIsAbcdefgh() {
        String order = Edges.orderOf(new WaterByLetters());
        Edges.is("abcdefgh", order.equals("abcdefgh"), true);
    }

    static void p01_noHouses() {
        WaterByLetters w = new WaterByLetters();
        Edges.is("count(0)", w.count(0), 0);
        Edges.throwsNoSuch("house(0, 0)", () -> w.house(0, 0));
    }

    static void p01_dayIs0() {
        Edges.is("count(1)", new WaterByLetters().count(1), 0);
    }

    static void p01_heatIsOne0() {
        WaterByLetters w = new WaterByLetters();
        Edges.is("count(7)", w.count(7), 1);
        Checks.text(w, "h+5").rule();
        Edges.is("yields(0)", w.yields(0), 5);
        Edges.is("yields(99)", w.yields(99), 5);
    }

    static void p01_theRuleIsNone() {
        WaterByLetters w = new WaterByLetters();
        Edges.is("count(2)", w.count(2), 20);
        Checks.text(w, "09").heat();
        Edges.is("yields(1)", w.yields(1), 2);
    }

    static void p01_nothingSeenUndoneKeptTold() {
        WaterByLetters w = new WaterByLetters();
        Edges.is("count(8)", w.count(8), 0);
        Edges.is("count(9)", w.count(9), 0);
        Edges.is("count(10)", w.count(10), 0);
        Edges.is("count(11)", w.count(11), 0);
        for (int i = 0; i < 3; i++) {
            Edges.is("again(" + i + ")", w.again(i), false);
        }
    }

    static void p01_objectsShareNothing() {
        WaterByLetters one = Edges.lived();
        Edges.lived().days(9);
        Edges.alike("another object", one, Edges.lived());
        Edges.alike("a new object", new WaterByLetters(), new WaterByLetters());
    }

    // ---- promise 2: sign

    private static WaterByLetters withSigns(int many) {
        WaterByLetters w = new WaterByLetters();
        for (int i = 0; i < many; i += 4) {
            w.sign('1' << 24 | '2' << 16 | '3' << 8 | '4');
        }
        w.end(many);
        return w;
    }

    static void p02_upTo80Signs() {
        WaterByLetters w = withSigns(76);
        Edges.is("sign()", w.sign(0), 80);
        Edges.is("count(11)", w.count(11), 80);
    }

    static void p02_moreThan80SignsAreRefused() {
        for (int many = 77; many <= 80; many++) {
            WaterByLetters w = withSigns(many);
            Edges.is("sign() behind " + many, w.sign(0), -1);
            Edges.is("count(11) behind " + many, w.count(11), many);
        }
    }

    static void p02_aRefusedSignLeavesTheText() {
        WaterByLetters w = withSigns(79);
        w.sign('x' << 24);
        w.end(20);
        Edges.is("heat()", w.heat(), 20);
        Edges.is("yields(3)", w.yields(3), 12);
        Edges.is("yields(19)", w.yields(19), 12);
    }

    static void p02_highestByteFirst() {
        WaterByLetters w = new WaterByLetters();
        w.sign('1' << 24 | '2' << 16 | '3' << 8 | '4');
        w.heat();
        for (int day = 0; day < 4; day++) {
            Edges.is("yields(" + day + ")", w.yields(day), 18 - 2 * day);
        }
    }

    static void p02_signsComeBehindThoseThatAreThere() {
        WaterByLetters w = new WaterByLetters();
        w.sign('1' << 24 | 'x' << 16);
        w.end(1);
        Edges.is("sign()", w.sign('2' << 24 | '3' << 16 | '4' << 8 | '5'), 5);
        Edges.is("heat()", w.heat(), 5);
        Edges.is("yields(4)", w.yields(4), 10);
    }

    static void p02_bytesAreTakenWithoutSign() {
        for (int v : new int[] {-1, MIN, 0, 0x80808080}) {
            WaterByLetters w = new WaterByLetters();
            Edges.is("sign(" + v + ")", w.sign(v), 4);
            Edges.is("houses()", w.houses(), -1);
        }
    }

    static void p02_aSignThatEqualsALetterButForHigherBitsIsNone() {
        WaterByLetters w = new WaterByLetters();
        w.sign('a' + 128 << 24 | '1' << 16);
        w.end(2);
        Edges.is("houses()", w.houses(), -1);
    }

    // ---- promise 3: end

    static void p03_asManyAsThereAre() {
        WaterByLetters w = withSigns(8);
        Edges.is("end(8)", w.end(8), true);
        Edges.is("count(11)", w.count(11), 8);
    }

    static void p03_notSoMany() {
        for (int n : new int[] {9, 80, 81, MAX}) {
            Edges.is("end(" + n + ")", withSigns(8).end(n), false);
        }
        Edges.refused("end(3)", 0, w -> w.end(3) ? 1 : 0);
    }

    static void p03_below0() {
        for (int n : new int[] {-1, MIN}) {
            Edges.is("end(" + n + ")", withSigns(8).end(n), false);
        }
        Edges.refused("end(-1)", 0, w -> w.end(-1) ? 1 : 0);
    }

    static void p03_none() {
        WaterByLetters w = withSigns(8);
        Edges.is("end(0)", w.end(0), true);
        Edges.is("count(11)", w.count(11), 0);
        Edges.is("end(0) once more", w.end(0), true);
    }

    static void p03_signsThatWereCutDoNotComeAgain() {
        WaterByLetters w = withSigns(8);
        w.end(2);
        Edges.is("end(3)", w.end(3), false);
        Edges.is("heat()", w.heat(), 2);
        Edges.is("end(1)", w.end(1), false);
    }

    // ---- promise 4: houses

    private static WaterByLetters townOf(int many) {
        return Checks.town(Edges.EIGHT.substring(0, 3 * many - 1));
    }

    private static void houses(String text, int due) {
        Edges.is("houses() '" + text + "'", Checks.text(new WaterByLetters(), text).houses(), due);
        Edges.fault(text, due, HOUSES);
    }

    static void p04_anEmptyTextTellsNothing() {
        Edges.is("houses()", new WaterByLetters().houses(), 0);
        Edges.fault("", 0, HOUSES);
    }

    static void p04_endsTooEarly() {
        houses("a", -2);
        houses("abcdef", -7);
        houses("a1;", -4);
        houses("a1;bc", -6);
    }

    static void p04_aSeventhLetterOfAName() {
        houses("abcdefa1", -7);
        houses("a1;aaaaaaa", -10);
        houses("abcdefgh", -7);
    }

    static void p04_namesOf1And6Letters() {
        WaterByLetters w = Checks.town("h1;aaaaaa1");
        Edges.is("house(0, 0)", w.house(0, 0), 1);
        Edges.is("house(1, 0)", w.house(1, 0), 6);
    }

    static void p04_aNameOfNoLetters() {
        houses("5", -1);
        houses("a1;5", -4);
        houses(";", -1);
        houses("a1;;b1", -4);
    }

    static void p04_lettersAreAToH() {
        houses("i1", -1);
        houses("`1", -1);
        houses("A1", -1);
        houses("ai1", -2);
        Edges.is("h1", Checks.text(new WaterByLetters(), "h1").houses(), 1);
    }

    static void p04_thirst0() {
        houses("a0", -2);
        houses("a1;bb0", -6);
    }

    static void p04_thirst1And9() {
        WaterByLetters w = Checks.town("a1;b9");
        Edges.is("house(0, 1)", w.house(0, 1), 1);
        Edges.is("house(1, 1)", w.house(1, 1), 9);
    }

    static void p04_signsBesideTheDigits() {
        houses("a/", -2);
        houses("a:", -2);
    }

    static void p04_behindALineOnlyASemicolon() {
        houses("a11", -3);
        houses("a1b1", -3);
        houses("a1 ", -3);
        houses("a1:b1", -3);
    }

    static void p04_eightHousesAreFull() {
        WaterByLetters w = new WaterByLetters();
        Edges.is("eight", Checks.text(w, Edges.EIGHT).houses(), 8);
        Edges.is("one more", Checks.text(w, "a1").houses(), -1);
        Edges.is("none more", Checks.text(w, "").houses(), 0);
        Edges.is("count(0)", w.count(0), 8);
    }

    static void p04_theFirstSignOfANinthLine() {
        Edges.is("nine", Checks.text(new WaterByLetters(), Edges.EIGHT + ";a1").houses(), -25);
        Edges.is("eight and ;", Checks.text(new WaterByLetters(), Edges.EIGHT + ";").houses(), -25);
    }

    static void p04_noRoomBehindHousesThatAreThere() {
        WaterByLetters w = townOf(7);
        Edges.is("two", Checks.text(w, "aa1;b1").houses(), -5);
        Edges.is("count(0)", w.count(0), 7);
        Edges.is("one", Checks.text(w, "aa1").houses(), 1);
    }

    static void p04_theFirstFaultIsTold() {
        Edges.is("no room, then a wrong sign", Checks.text(townOf(7), "a1;bx").houses(), -4);
        Edges.is("a wrong sign, then no room", Checks.text(townOf(7), "a1x;b1").houses(), -3);
    }

    static void p04_signsBehindThe71st() {
        String eight = "abcdef1;".repeat(8);
        Edges.is("63 signs", Checks.text(new WaterByLetters(), eight.substring(0, 63)).houses(), 8);
        Edges.is("72 signs", Checks.text(new WaterByLetters(), eight + "abcdef1;").houses(), -65);
        Edges.is("80 signs", Checks.text(new WaterByLetters(), eight + "abcdef1;abcdef1;").houses(), -65);
        Edges.is("80 signs, one wrong", Checks.text(new WaterByLetters(), eight.replace("f1", "fx") + "aaaaaaaa").houses(), -7);
    }

    static void p04_nothingComesIfALineCannot() {
        houses("h9;g8;f", -8);
        houses("h9;g8;f0", -8);
        houses("h1;g1;f1;dx", -11);
    }

    static void p04_housesAreMore() {
        WaterByLetters w = Checks.town("b2");
        w.days(1);
        Edges.is("houses()", Checks.text(w, "a3").houses(), 1);
        Edges.is("house(0, 1)", w.house(0, 1), 2);
        Edges.is("house(0, 3)", w.house(0, 3), 2);
        Edges.is("house(1, 1)", w.house(1, 1), 3);
        Edges.is("house(1, 2)", w.house(1, 2), 0);
        Edges.is("house(1, 3)", w.house(1, 3), 0);
        Edges.is("count(1)", w.count(1), 1);
    }

    static void p04_leavesTheRow() {
        Edges.leavesRow("houses()", w -> Checks.text(w, "a1").houses());
    }

    // ---- promise 5: heat

    static void p05_noSigns() {
        Edges.is("heat()", new WaterByLetters().heat(), -1);
        Edges.fault("", -1, HEAT);
    }

    static void p05_oneSign() {
        WaterByLetters w = Checks.text(new WaterByLetters(), "9");
        Edges.is("heat()", w.heat(), 1);
        Edges.is("count(7)", w.count(7), 1);
        Edges.is("yields(98)", w.yields(98), 2);
        Edges.is("yields(99)", w.yields(99), 2);
    }

    static void p05_twentySigns() {
        WaterByLetters w = Checks.text(new WaterByLetters(), "00000000000000000009");
        Edges.is("heat()", w.heat(), 20);
        Edges.is("count(7)", w.count(7), 20);
        Edges.is("yields(18)", w.yields(18), 20);
        Edges.is("yields(19)", w.yields(19), 2);
    }

    static void p05_aTwentyFirstSign() {
        Edges.fault("0".repeat(21), -21, HEAT);
        Edges.fault("0".repeat(20) + "x", -21, HEAT);
        Edges.fault("0".repeat(80), -21, HEAT);
    }

    static void p05_aSignThatIsNoDigit() {
        Edges.fault("x", -1, HEAT);
        Edges.fault("12/", -3, HEAT);
        Edges.fault("12:", -3, HEAT);
        Edges.fault("-1", -1, HEAT);
        Edges.fault("0".repeat(19) + "x0", -20, HEAT);
    }

    static void p05_theDigitAtDayGoesRound() {
        WaterByLetters w = Checks.text(new WaterByLetters(), "123");
        w.heat();
        w.days(2);
        Edges.is("DAY 2", w.count(2), 14);
        w.days(1);
        Edges.is("DAY 3", w.count(2), 18);
        Edges.is("DAY 5", w.yields(2), 14);
        Edges.is("DAY 6", w.yields(3), 18);
    }

    static void p05_aShorterHeatTakesThePlaceOfALongerOne() {
        WaterByLetters w = Checks.text(new WaterByLetters(), "12345");
        w.heat();
        Checks.text(w, "67").heat();
        Edges.is("count(7)", w.count(7), 2);
        Edges.is("yields(2)", w.yields(2), 8);
    }

    static void p05_leavesTheRow() {
        Edges.leavesRow("heat()", w -> Checks.text(w, "5").heat());
    }

    // ---- promise 6: rule

    private static final String FORTY = "1+1+1+1+1+1+1+1+1+1+1+1+1+1+1+1+1+1+1+12";

    /** YIELD on DAY 13 of HEAT 4, with three HOUSES of THIRST 15 together. */
    private static void yields(String rule, int due) {
        WaterByLetters w = Checks.town("a4;b5;c6");
        Checks.text(w, "4").heat();
        w.days(13);
        Edges.is("rule() " + rule, Checks.text(w, rule).rule(), 0);
        Edges.is("YIELD by " + rule, w.count(2), due);
    }

    static void p06_anEmptyTextIsNone() {
        WaterByLetters w = Checks.townWithRule("", "5");
        Edges.is("count(2) by 5", w.count(2), 5);
        Edges.is("rule()", w.rule(), 0);
        Edges.is("count(2)", w.count(2), 20);
    }

    static void p06_endsTooEarly() {
        String[] texts = {"1+", "1-", "2*", "2/", "1<", "1>", "1=", "(", "(1", "-", "--", "(1)+", "((1)"};
        for (String text : texts) {
            Edges.fault(text, -1 - text.length(), RULE);
        }
    }

    static void p06_fortySigns() {
        WaterByLetters w = Checks.text(new WaterByLetters(), FORTY);
        Edges.is("rule()", w.rule(), 0);
        Edges.is("count(2)", w.count(2), 31);
    }

    static void p06_moreThan40OfWhich40CouldEnd() {
        Edges.fault(FORTY + "+1", -41, RULE);
        Edges.fault(FORTY + "3", -41, RULE);
        Edges.fault(FORTY + "x", -41, RULE);
        Edges.fault(FORTY + FORTY, -41, RULE);
    }

    static void p06_moreThan40OfWhich40CouldGoOn() {
        Edges.fault("-".repeat(40) + "1", -41, RULE);
        Edges.fault(FORTY.substring(0, 39) + "+1", -41, RULE);
        Edges.fault("(" + FORTY.substring(0, 39) + ")", -41, RULE);
    }

    static void p06_aFaultAmongTheFirst40OfMore() {
        Edges.fault("x" + FORTY, -1, RULE);
        Edges.fault(FORTY.substring(0, 39) + "x1", -40, RULE);
    }

    static void p06_fortySignsThatEndTooEarly() {
        Edges.fault("-".repeat(40), -41, RULE);
        Edges.fault(FORTY.substring(0, 39) + "+", -41, RULE);
    }

    static void p06_aThingIsDue() {
        for (String text : new String[] {"+1", "*1", "/1", "<1", ")", ";", "a", "c", "g", "i", "x", " 1"}) {
            Edges.fault(text, -1, RULE);
        }
        for (String text : new String[] {"1++1", "1*/2", "1==2", "1<=2", "1-)", "1+;"}) {
            Edges.fault(text, -3, RULE);
        }
        Edges.fault("()", -2, RULE);
    }

    static void p06_aThingIsNotDue() {
        for (String text : new String[] {"hh", "h1", "1h", "d(1)", "2(1)", "1)", "1 +2", "n;", "1.5"}) {
            Edges.fault(text, -2, RULE);
        }
        for (String text : new String[] {"(1)2", "(1)(2)", "(1)h"}) {
            Edges.fault(text, -4, RULE);
        }
        Edges.fault("(1))", -4, RULE);
    }

    static void p06_noComparisonBehindAnother() {
        for (String text : new String[] {"1<2<3", "1<2>3", "1=2=3", "1>2<3", "1=2<3", "1>2>3"}) {
            Edges.fault(text, -4, RULE);
        }
        Edges.fault("1<2+3>4", -6, RULE);
        Edges.fault("(1<2<3)", -5, RULE);
        Edges.fault("1<(2<3)<4", -8, RULE);
        Edges.fault("(1<2)<3<4", -8, RULE);
    }

    static void p06_comparisonsInBracketsAreThings() {
        yields("(1<2)<3", 1);
        yields("(3>2)>0", 1);
        yields("1<(2<3)", 0);
        yields("(1<2)=(3>2)", 1);
        yields("(1<2)+(2>1)+(1=1)", 3);
    }

    static void p06_aComparisonIsOverWithItsBracket() {
        yields("(1<2)+(5)", 6);
        yields("(3>4)+(5-1)*2", 8);
    }

    static void p06_yieldsTheSameWhenAskedAgain() {
        for (String rule : new String[] {"-5+9", "(-5+9)", "8/2", "(1<2)*4", "-(-4)"}) {
            WaterByLetters w = Checks.townWithRule("", rule);
            for (int i = 0; i < 3; i++) {
                Edges.is(rule, w.count(2), 4);
            }
        }
    }

    static void p06_anotherRuleForgetsTheOneBefore() {
        WaterByLetters w = Checks.townWithRule("", "3<(2=2)");
        Edges.is("3<(2=2)", w.count(2), 0);
        Checks.text(w, "7").rule();
        Edges.is("7", w.count(2), 7);
        Checks.text(w, "(8)").rule();
        Edges.is("(8)", w.count(2), 8);
    }

    static void p06_aNumberOf1To3Digits() {
        yields("7", 7);
        yields("42", 42);
        yields("100-13", 87);
        yields("007", 7);
        yields("000", 0);
        Edges.fault("1234", -4, RULE);
        Edges.fault("12+3456", -7, RULE);
        Edges.fault("0000", -4, RULE);
    }

    static void p06_atMost4BracketsInOneAnother() {
        yields("((((7))))", 7);
        yields("(1)+(1)+(1)+(1)+(1)", 5);
        yields("((((1))+((2))))", 3);
        yields("((((1<2))))", 1);
        yields("((((-1+3*4/-2))))+9", 2);
        Edges.fault("(((((7)))))", -5, RULE);
        Edges.fault("(1)+(((((7", -9, RULE);
    }

    static void p06_anyManyMinuses() {
        yields("--5", 5);
        yields("-".repeat(38) + "5", 5);
        yields("-".repeat(39) + "5", 0);
        yields("9---5", 4);
        yields("9----5", 14);
        yields("-(-(-(-5)))", 5);
    }

    static void p06_aMinusAheadOfAThingBindsMost() {
        yields("2*-3+20", 14);
        yields("20/-3+10", 4);
        yields("-3*-3", 9);
        yields("-1<0", 1);
        yields("1>-1", 1);
    }

    static void p06_whatBindsLeast() {
        yields("2+3*4", 14);
        yields("1+1<3", 1);
        yields("3<1+1", 0);
        yields("2*3=6", 1);
        yields("(2+3)*4", 20);
    }

    static void p06_fromTheLeft() {
        yields("20-5-4", 11);
        yields("1-2+3", 2);
        yields("40/5/2", 4);
        yields("8/3*3", 6);
        yields("8*3/3", 8);
    }

    static void p06_comparisonsAre1Or0() {
        yields("2<3", 1);
        yields("3<3", 0);
        yields("3>2", 1);
        yields("3>3", 0);
        yields("3=3", 1);
        yields("3=2", 0);
    }

    static void p06_dividedBy0Is0() {
        yields("7/0", 0);
        yields("7/0+3", 3);
        yields("7/(h-4)+5", 5);
        yields("0/0+1", 1);
        yields("6/0*3+2", 2);
    }

    static void p06_dividedIsCutTo0() {
        yields("7/2", 3);
        yields("-7/2+9", 6);
        yields("7/-2+9", 6);
        yields("(1-8)/2+9", 6);
        yields("-7/-2", 3);
    }

    static void p06_below0IsPutTo0() {
        yields("0-1", 0);
        yields("-999", 0);
        yields("0", 0);
        yields("1", 1);
    }

    static void p06_above99IsPutTo99() {
        yields("99", 99);
        yields("100", 99);
        yields("98", 98);
        yields("999*999", 99);
    }

    static void p06_intsWrapAround() {
        yields("256*256*256*256+7", 7);
        yields("256*256*256*128", 0);
        yields("256*256*256*128-1", 99);
        yields("(256*256*256*128-1)+1<0", 1);
        yields("-(256*256*256*128)<0", 1);
        yields("999*999*999*999", 0);
    }

    static void p06_theLeastIntByMinus1() {
        yields("256*256*256*128/-1<0", 1);
        yields("256*256*256*128/-1-1", 99);
    }

    static void p06_whatADayTells() {
        yields("h", 4);
        yields("d", 3);
        yields("n", 3);
        yields("t", 15);
    }

    static void p06_dayBy10GoesRound() {
        WaterByLetters w = Checks.townWithRule("", "d");
        Edges.is("DAY 9", w.yields(9), 9);
        Edges.is("DAY 10", w.yields(10), 0);
        w.days(10);
        Edges.is("DAY 10", w.count(2), 0);
        Edges.is("DAY 109", w.yields(99), 9);
    }

    static void p06_withoutHouses() {
        Edges.is("n", Checks.townWithRule("", "n+5").count(2), 5);
        Edges.is("t", Checks.townWithRule("", "t+6").count(2), 6);
    }

    static void p06_leavesTheRow() {
        Edges.leavesRow("rule()", w -> Checks.text(w, "5").rule());
    }

    // ---- promise 7: house

    static void p07_noSuchHouse() {
        WaterByLetters w = Checks.town("a1;b2");
        for (int house : new int[] {-1, 2, 8, MIN, MAX}) {
            for (int what = 0; what <= 5; what++) {
                int asked = what;
                Edges.throwsNoSuch("house(" + house + ", " + what + ")", () -> w.house(house, asked));
            }
        }
    }

    static void p07_withoutHouses() {
        Edges.throwsNoSuch("house(0, 1)", () -> new WaterByLetters().house(0, 1));
    }

    static void p07_theLastOfEight() {
        WaterByLetters w = Checks.town(Edges.EIGHT);
        Edges.is("house(7, 1)", w.house(7, 1), 8);
        Edges.throwsNoSuch("house(8, 1)", () -> w.house(8, 1));
    }

    static void p07_anotherWhat() {
        WaterByLetters w = Checks.town("a1;b2");
        for (int what : new int[] {-1, 6, MIN, MAX}) {
            Edges.throwsNoSuch("house(0, " + what + ")", () -> w.house(0, what));
        }
    }

    static void p07_placesFrom0On() {
        WaterByLetters w = Checks.town("b1;a1");
        Edges.is("house(1, 4)", w.house(1, 4), 0);
        Edges.is("house(0, 4)", w.house(0, 4), 1);
    }

    static void p07_cupsAllSomeNone() {
        WaterByLetters w = Checks.townWithRule("a4;b4;c4", "6");
        Edges.is("house(0, 5)", w.house(0, 5), 4);
        Edges.is("house(1, 5)", w.house(1, 5), 2);
        Edges.is("house(2, 5)", w.house(2, 5), 0);
    }

    static void p07_changesNothing() {
        for (int what = 0; what <= 5; what++) {
            int asked = what;
            Edges.question("house(0, " + what + ")", w -> w.house(0, asked));
        }
    }

    // ---- promise 8: letter

    static void p08_noSuchLetter() {
        WaterByLetters w = Checks.town("abcdef1;h2");
        for (int i : new int[] {-1, 6, 7, MIN, MAX}) {
            Edges.throwsNoSuch("letter(0, " + i + ")", () -> w.letter(0, i));
        }
        Edges.is("letter(0, 5)", w.letter(0, 5), 5);
        Edges.is("letter(1, 0)", w.letter(1, 0), 7);
        Edges.throwsNoSuch("letter(1, 1)", () -> w.letter(1, 1));
    }

    static void p08_noSuchHouse() {
        WaterByLetters w = Checks.town("abcdef1;h2");
        for (int house : new int[] {-1, 2, 8, MIN, MAX}) {
            Edges.throwsNoSuch("letter(" + house + ", 0)", () -> w.letter(house, 0));
        }
        Edges.throwsNoSuch("without houses", () -> new WaterByLetters().letter(0, 0));
    }

    static void p08_aShorterNameHasNoLettersOfTheLongerOne() {
        WaterByLetters w = Checks.town("abcdef1");
        Checks.text(w, "h").name(0);
        Edges.is("letter(0, 0)", w.letter(0, 0), 7);
        Edges.throwsNoSuch("letter(0, 1)", () -> w.letter(0, 1));
    }

    static void p08_changesNothing() {
        Edges.question("letter(0, 1)", w -> w.letter(0, 1));
    }

    // ---- promise 9: sheet

    private static void entry(int kind, int entry, int due) {
        WaterByLetters w = Checks.town("a5");
        Edges.is("sheet(" + kind + ", 1, " + entry + ", 0)", w.sheet(kind, 1, entry, 0), due);
        Edges.is("house(0, 1)", w.house(0, 1), due);
    }

    static void p09_bytesAreTheLowestBitsWithTheirSign() {
        entry(0, 127, 9);
        entry(0, 128, 1);
        entry(0, 255, 1);
        entry(0, 256 + 7, 7);
        entry(0, -256 + 6, 6);
        entry(0, -128, 1);
        entry(0, -129, 9);
    }

    static void p09_shortsAreTheLowestBitsWithTheirSign() {
        entry(1, 128, 9);
        entry(1, 32767, 9);
        entry(1, 32768, 1);
        entry(1, 65535, 1);
        entry(1, 65536 + 7, 7);
        entry(1, -65536 + 6, 6);
        entry(1, -32769, 9);
    }

    static void p09_intsAreWhole() {
        entry(2, 32768, 9);
        entry(2, 65536 + 7, 9);
        entry(2, -65536 + 6, 1);
        entry(2, MAX, 9);
        entry(2, MIN, 1);
    }

    static void p09_putTo1And9() {
        for (int kind = 0; kind <= 2; kind++) {
            entry(kind, -1, 1);
            entry(kind, 0, 1);
            entry(kind, 1, 1);
            entry(kind, 2, 2);
            entry(kind, 9, 9);
            entry(kind, 10, 9);
        }
    }

    private static void thirsts(WaterByLetters w, int... due) {
        for (int house = 0; house < due.length; house++) {
            Edges.is("house(" + house + ", 1)", w.house(house, 1), due[house]);
        }
        Edges.is("count(0)", w.count(0), due.length);
    }

    static void p09_thoseBehindTheSheetHave1() {
        WaterByLetters w = Checks.town("a5;b5;c5;d5");
        Edges.is("two entries", w.sheet(2, 2, 7, -3), 7 + 4 + 1 + 1);
        thirsts(w, 7, 4, 1, 1);
    }

    static void p09_noEntries() {
        for (int kind = 0; kind <= 2; kind++) {
            int asked = kind;
            WaterByLetters w = Checks.town("a5;b5");
            Edges.is("sheet(" + kind + ", 0, 9, 9)", w.sheet(asked, 0, 9, 9), 2);
            thirsts(w, 1, 1);
        }
    }

    static void p09_eightEntries() {
        WaterByLetters w = Checks.town(Edges.EIGHT);
        Edges.is("sheet(2, 8, 9, -1)", w.sheet(2, 8, 9, -1), 9 + 8 + 7 + 6 + 5 + 4 + 3 + 2);
        thirsts(w, 9, 8, 7, 6, 5, 4, 3, 2);
    }

    static void p09_moreEntriesThanHouses() {
        WaterByLetters w = Checks.town("a5;b5");
        Edges.is("sheet(2, 8, 3, 1)", w.sheet(2, 8, 3, 1), 3 + 4);
        Checks.text(w, "c6").houses();
        thirsts(w, 3, 4, 6);
    }

    static void p09_moreThan8EntriesAreRefused() {
        for (int kind = 0; kind <= 3; kind++) {
            int asked = kind;
            Edges.refused("sheet(" + kind + ", 9, 2, 0)", -1, w -> w.sheet(asked, 9, 2, 0));
            Edges.refused("sheet(" + kind + ", MAX, 2, 0)", -1, w -> w.sheet(asked, MAX, 2, 0));
        }
    }

    static void p09_anotherKindIsRefusedFirst() {
        for (int kind : new int[] {-1, 4, MIN, MAX}) {
            for (int n : new int[] {-1, 0, 4, 9}) {
                Edges.refused("sheet(" + kind + ", " + n + ", 2, 0)", -1, w -> w.sheet(kind, n, 2, 0));
            }
        }
    }

    static void p09_fewerThan0EntriesOfKinds0To2() {
        for (int kind = 0; kind <= 2; kind++) {
            int asked = kind;
            Edges.refused("sheet(" + kind + ", -1, 2, 0)", -2, w -> w.sheet(asked, -1, 2, 0));
            Edges.refused("sheet(" + kind + ", MIN, 2, 0)", -2, w -> w.sheet(asked, MIN, 2, 0));
        }
    }

    static void p09_aMissingSheet() {
        for (int n : new int[] {-1, MIN, 0, 2, 8}) {
            WaterByLetters w = Checks.town("a5;b5;c5");
            Edges.is("sheet(3, " + n + ", 7, 0)", w.sheet(3, n, 7, 0), -3);
            thirsts(w, 1, 1, 1);
        }
    }

    static void p09_entriesWrapAround() {
        WaterByLetters w = Checks.town("a5;b5;c5");
        Edges.is("ints", w.sheet(2, 3, MAX, 1), 9 + 1 + 1);
        thirsts(w, 9, 1, 1);
        Edges.is("ints by a half", w.sheet(2, 3, 5, MIN), 5 + 1 + 5);
        thirsts(w, 5, 1, 5);
        Edges.is("bytes", w.sheet(0, 3, 4, 128), 4 + 1 + 4);
        thirsts(w, 4, 1, 4);
        Edges.is("shorts", w.sheet(1, 3, 3, 32768), 3 + 1 + 3);
        thirsts(w, 3, 1, 3);
    }

    static void p09_withoutHouses() {
        Edges.is("ints", new WaterByLetters().sheet(2, 3, 5, 0), 0);
        Edges.is("missing", new WaterByLetters().sheet(3, 3, 5, 0), -3);
        Edges.is("n below 0", new WaterByLetters().sheet(0, -1, 5, 0), -2);
    }

    static void p09_leavesTheRow() {
        Edges.leavesRow("sheet()", w -> w.sheet(2, 4, 7, 0));
    }
}
