import java.util.function.ToLongFunction;

/** Boundary cases of promises 21 to 28, one test each: orders of letters, votes, initials, marriages, books. */
public final class EdgesOfOrdersTest {
    private static final ToLongFunction<WaterByLetters> VOTES = WaterByLetters::votes;
    private static final ToLongFunction<WaterByLetters> SWAYS = WaterByLetters::sways;
    private static final ToLongFunction<WaterByLetters> LINES = WaterByLetters::lines;
    private static final String FIRST = "abcdefgh";
    private static final int MIN = Integer.MIN_VALUE;
    private static final int MAX = Integer.MAX_VALUE;

    public static void main(String[] args) {
        Edges.run(EdgesOfOrdersTest.class, 21, 28);
    }

    // ---- promise 21: fewest

    private static void fewest(String houses, String rule, int due, String order) {
        WaterByLetters w = Checks.townWithRule(houses, rule);
        Edges.is("fewest() of " + houses + " by " + rule, w.fewest(), due);
        Edges.rowIsOrder(w, order);
    }

    static void p21_withoutHouses() {
        fewest("", "0", 0, FIRST);
        fewest("", "20", 0, FIRST);
    }

    static void p21_allDrinkTheirFill() {
        fewest("h4;g5", "9", 0, FIRST);
        fewest(Edges.EIGHT, "36", 0, FIRST);
    }

    static void p21_noWater() {
        fewest("h4;g5", "0", 2, FIRST);
        fewest(Edges.EIGHT, "0", 8, FIRST);
    }

    static void p21_oneCupTooFew() {
        fewest("h4;g5", "8", 1, FIRST);
        fewest("h4;g5", "4", 1, "abcdefhg");
        fewest("h4;g5", "3", 2, FIRST);
    }

    static void p21_ofAsGoodOnesTheLeastRow() {
        fewest("b9;a9", "9", 1, FIRST);
        fewest("a9;b1", "5", 1, "bacdefgh");
        fewest("c9;d1;e1", "1", 2, "abdcefgh");
        fewest("a9;c1;e1", "2", 1, "bcdeafgh");
    }

    static void p21_anyOrderCanBeTheBest() {
        fewest("h1;g1;f1;e1;d1;c1;b1;a9", "7", 1, "bcdefgha");
        fewest("h1;g2;f3;e4;d5;c6;b7;a8", "28", 1, "bcdefgha");
        fewest("a9;b8;c7;d6;e5;f4;g3;h2", "14", 4, "efghabcd");
    }

    static void p21_likeNamesStayInTheirOrder() {
        fewest("a9;a1", "1", 2, FIRST);
        fewest("a1;a9", "1", 1, FIRST);
        fewest("ab9;a1;ab1", "2", 2, FIRST);
    }

    static void p21_aBeginningStaysAhead() {
        fewest("b9;ba1;a9", "1", 3, FIRST);
        fewest("b1;ba9;a9", "1", 2, "bacdefgh");
    }

    static void p21_byTheNamesAsTheyAre() {
        WaterByLetters w = Checks.townWithRule("a9;a1", "1");
        Edges.is("fewest()", w.fewest(), 2);
        Checks.text(w, "b").name(0);
        Edges.is("fewest() with another name", w.fewest(), 1);
        w.undo();
        Edges.is("fewest() with the name as it was", w.fewest(), 2);
    }

    static void p21_theOrderAsItIsDoesNotMatter() {
        WaterByLetters w = Checks.townWithRule("b9;a9", "9");
        Checks.text(w, "hgfedcba").order();
        Edges.is("fewest()", w.fewest(), 1);
        Edges.rowIsOrder(w, FIRST);
    }

    static void p21_changesNothing() {
        Edges.question("fewest()", WaterByLetters::fewest);
    }

    // ---- promise 22: likes

    private static void likes(String houses, int house, int due, String order) {
        WaterByLetters w = Checks.town(houses);
        Edges.is("likes(" + house + ") of " + houses, w.likes(house), due);
        Edges.rowIsOrder(w, order);
    }

    static void p22_noSuchHouse() {
        for (int house : new int[] {-1, 4, 8, MIN, MAX}) {
            Edges.refused("likes(" + house + ")", -1, w -> w.likes(house));
        }
        Edges.is("without houses", new WaterByLetters().likes(0), -1);
    }

    static void p22_theOnlyHouse() {
        likes("h1", 0, 0, FIRST);
    }

    static void p22_ofAsGoodOnesTheLeastRow() {
        likes("a1;b1", 0, 0, FIRST);
        likes("h1;g1", 0, 0, "abcdefhg");
        likes("h1;a1", 0, 0, "bcdefgha");
        likes("c1;b1;a1", 1, 0, "bacdefgh");
    }

    static void p22_likeNamesByTheirNumbers() {
        likes("a1;a1;a1", 2, 2, FIRST);
        likes("a1;a1;a1", 0, 0, FIRST);
    }

    static void p22_aBeginningIsAheadByAnyOrder() {
        likes("ab1;a1;b1", 0, 1, FIRST);
        likes("ba1;b1;a1", 0, 1, "bacdefgh");
    }

    static void p22_wishesThatCollide() {
        likes("ab1;ba1;aa1", 0, 1, FIRST);
        likes("ab1;ba1;aa1;aa1", 0, 1, "bacdefgh");
        likes("db1;bd1;dd1;c1;da1", 0, 1, "badcefgh");
    }

    static void p22_oneHouseBehindAnother() {
        WaterByLetters w = Checks.town("ab1;ba1;aa1;aa1;h1");
        Edges.is("likes(0)", w.likes(0), 1);
        Edges.rowIsOrder(w, "bacdefgh");
        Edges.is("likes(4)", w.likes(4), 0);
        Edges.rowIsOrder(w, "cdefghab");
        Edges.is("likes(2)", w.likes(2), 0);
        Edges.rowIsOrder(w, FIRST);
        Edges.is("likes(3)", w.likes(3), 1);
        Edges.rowIsOrder(w, FIRST);
    }

    static void p22_askedAgain() {
        WaterByLetters w = Checks.town("ab1;ba1;aa1");
        for (int i = 0; i < 3; i++) {
            Edges.is("likes(0)", w.likes(0), 1);
            Edges.rowIsOrder(w, FIRST);
        }
    }

    static void p22_theLastOfEight() {
        likes("a1;b1;c1;d1;e1;f1;g1;h1", 7, 0, "habcdefg");
    }

    static void p22_changesNothing() {
        Edges.question("likes(1)", w -> w.likes(1));
    }

    // ---- promise 23: rounds

    static void p23_fewerThan1() {
        for (int n : new int[] {0, -1, MIN}) {
            Edges.refused("rounds(" + n + ")", -1, w -> w.rounds(n));
        }
    }

    static void p23_moreThan60() {
        for (int n : new int[] {61, MAX}) {
            Edges.refused("rounds(" + n + ")", -1, w -> w.rounds(n));
        }
    }

    static void p23_withoutHouses() {
        for (int n : new int[] {1, 60}) {
            WaterByLetters w = new WaterByLetters();
            Edges.is("rounds(" + n + ")", w.rounds(n), 0);
            Edges.row(w, 0, 0);
        }
        Edges.is("rounds(0)", new WaterByLetters().rounds(0), -1);
    }

    private static void rounds(int n, int due, long most, long least) {
        WaterByLetters w = Checks.townWithRule("a1;b1", "1");
        Edges.is("rounds(" + n + ")", w.rounds(n), due);
        Edges.row(w, most, least);
    }

    static void p23_theFirstDayIsByTheOrderAsItIs() {
        rounds(1, 1, 1, 0);
    }

    static void p23_behindEachDayTheFirstLetterBecomesTheLast() {
        rounds(2, 2, 1, 1);
        rounds(3, 3, 2, 1);
    }

    static void p23_theOrderGoesRoundIn8Days() {
        rounds(8, 8, 7, 1);
        rounds(9, 9, 8, 1);
        rounds(10, 10, 8, 2);
    }

    static void p23_sixtyDays() {
        rounds(60, 60, 52, 8);
        WaterByLetters w = Checks.townWithRule(Edges.EIGHT, "0");
        Edges.is("rounds(60)", w.rounds(60), 480);
        Edges.row(w, 60, 60);
    }

    static void p23_onlyTheNextDaysCount() {
        WaterByLetters w = Checks.townWithRule("a1;b1", "d/3*2");
        w.days(3);
        Edges.is("rounds(2)", w.rounds(2), 0);
        Edges.row(w, 0, 0);
    }

    static void p23_changesNothing() {
        Edges.question("rounds(9)", w -> w.rounds(9));
    }

    // ---- promise 24: votes

    /** The faults of a text that is an order, told from -10000 on. */
    private static void orderFaults(ToLongFunction<WaterByLetters> call) {
        String[] texts = {"i", "abc1efgh", "abcdefgi"};
        int[] faults = {0, 3, 7};
        for (int i = 0; i < texts.length; i++) {
            Edges.fault(texts[i], -10000 - faults[i], call);
        }
    }

    private static void endsTooEarly(ToLongFunction<WaterByLetters> call) {
        Edges.fault("", -10000, call);
        Edges.fault("h", -10001, call);
        Edges.fault("abcdefg", -10007, call);
    }

    private static void thereAlready(ToLongFunction<WaterByLetters> call) {
        Edges.fault("aa", -10001, call);
        Edges.fault("abcdefgg", -10007, call);
    }

    private static void ninthSign(ToLongFunction<WaterByLetters> call) {
        Edges.fault("abcdefgha", -10008, call);
        Edges.fault("hgfedcbax", -10008, call);
    }

    static void p24_aSignThatIsNoLetter() {
        orderFaults(VOTES);
    }

    static void p24_endsTooEarly() {
        endsTooEarly(VOTES);
    }

    static void p24_aLetterThatIsThereAlready() {
        thereAlready(VOTES);
    }

    static void p24_aNinthSign() {
        ninthSign(VOTES);
    }

    private static void votes(String houses, String order, int due, long earlier, long later) {
        WaterByLetters w = Checks.text(Checks.town(houses), order);
        Edges.is("votes() of " + houses + " for " + order, w.votes(), due);
        Edges.row(w, earlier, later);
        Edges.is("count(11)", w.count(11), 0);
    }

    static void p24_withoutHouses() {
        votes("", "hgfedcba", 0, 0, 0);
    }

    static void p24_theSameOrder() {
        votes(Edges.EIGHT, FIRST, 0, 0, 0);
    }

    static void p24_theSamePlaceIsNeither() {
        votes("a1;b1;c1", "cbadefgh", 1, 4, 1);
    }

    static void p24_eightHouses() {
        votes(Edges.EIGHT, "hgfedcba", 4, 0xf0, 0x0f);
        votes(Edges.EIGHT, "bcdefgha", 7, 0xfe, 1);
        votes(Edges.EIGHT, "habcdefg", 1, 0x80, 0x7f);
    }

    static void p24_changesNothing() {
        Edges.questionWithText("hgfedcba", VOTES);
    }

    // ---- promise 25: sways

    static void p25_aSignThatIsNoLetter() {
        orderFaults(SWAYS);
    }

    static void p25_endsTooEarly() {
        endsTooEarly(SWAYS);
    }

    static void p25_aLetterThatIsThereAlready() {
        thereAlready(SWAYS);
    }

    static void p25_aNinthSign() {
        ninthSign(SWAYS);
    }

    private static void sways(String houses, String order, int due, long won) {
        WaterByLetters w = Checks.text(Checks.town(houses), order);
        Edges.is("sways() of " + houses + " for " + order, w.sways(), due);
        Edges.row(w, won);
        Edges.is("count(11)", w.count(11), 0);
    }

    static void p25_withoutHouses() {
        sways("", "hgfedcba", 0, 0);
    }

    static void p25_itIsSo() {
        sways("a1;b1;c1", "bcadefgh", 0, 0);
        sways(Edges.EIGHT, "bcdefgha", 0, 0);
    }

    static void p25_halfIsNotMoreThanHalf() {
        sways("b3;a2", "bacdefgh", 1, 2);
        sways(Edges.EIGHT, "hgfedcba", 1, 1);
    }

    static void p25_theOnlyHouse() {
        sways("a9", "hgfedcba", 1, 1);
    }

    static void p25_allStay() {
        sways("a1;b1;c1", FIRST, 2, 3);
        sways("a1;b1;c1;d1", FIRST, 3, 7);
        sways("a1;a1;a1;a1;a1;a1;a1;a1", "hgfedcba", 5, 31);
        sways(Edges.EIGHT, FIRST, 5, 31);
        sways("a9;b9;c9;d9;e9;f9;g9;h1", FIRST, 5, 128 + 15);
    }

    static void p25_ofAsFewTheLeastThirst() {
        sways("a9;b1;c1;d1", FIRST, 3, 14);
        sways("a9;b8;c7", FIRST, 2, 6);
    }

    static void p25_ofLikeThirstTheLeastBits() {
        sways("a2;b1;c2", FIRST, 2, 3);
        sways("a3;b2;c2;d1", FIRST, 3, 14);
        sways("a2;b2;c2;d1", FIRST, 3, 11);
    }

    static void p25_thoseThatAreForItAreNotWonOver() {
        sways("b1;a9;c9", "bacdefgh", 1, 2);
    }

    static void p25_changesNothing() {
        Edges.questionWithText("hgfedcba", SWAYS);
    }

    // ---- promise 26: initial

    private static void initial(String houses, String order, int house, int due, long place) {
        WaterByLetters w = Checks.town(houses);
        Checks.text(w, order).order();
        Edges.is("initial(" + house + ") of " + houses + " by " + order, w.initial(house), due);
        Edges.row(w, place);
    }

    static void p26_noSuchHouse() {
        for (int house : new int[] {-1, 4, 8, MIN, MAX}) {
            Edges.refused("initial(" + house + ")", -1, w -> w.initial(house));
        }
        Edges.is("without houses", new WaterByLetters().initial(0), -1);
    }

    static void p26_ofEqualOnesTheLeast() {
        initial("h1", FIRST, 0, 0, 0);
        initial("h1", "hgfedcba", 0, 0, 0);
        initial("c1;h1", FIRST, 1, 0, 0);
        initial("c1;h1", "hgfedcba", 1, 3, 0);
        initial("e1;a1", "hgfedcba", 1, 5, 0);
    }

    static void p26_likeNamesByTheirNumbers() {
        initial("a1;h1", FIRST, 1, 0, 1);
        initial("h1;a1", FIRST, 0, 0, 0);
        initial("a1;a1", "hgfedcba", 1, 1, 0);
        initial("h1;h1", "hgfedcba", 1, 0, 1);
    }

    static void p26_theRestOfTheNameStays() {
        initial("ab1;ha1", FIRST, 1, 0, 0);
        initial("ab1;hc1", FIRST, 1, 0, 1);
        initial("a1;ha1", FIRST, 1, 0, 1);
        initial("aa1;h1", FIRST, 1, 0, 0);
    }

    static void p26_itsOwnLetterCounts() {
        initial("a1;b1", "bacdefgh", 1, 1, 0);
        initial("b1;ba1", "bacdefgh", 1, 0, 1);
    }

    static void p26_changesNothing() {
        Edges.question("initial(3)", w -> w.initial(3));
    }

    // ---- promise 27: matches

    private static void matches(String houses, int due, long... row) {
        WaterByLetters w = Checks.town(houses);
        w.fits();
        Edges.is("matches() of " + houses, w.matches(), due);
        Edges.row(w, row);
    }

    static void p27_withoutHouses() {
        matches("", 0);
    }

    static void p27_theOnlyHouse() {
        matches("a1", 0);
    }

    static void p27_pairsThatClimbNothingAreLeftOut() {
        matches("a1;b1", 0);
        matches("a1;a1;a1;a1", 0);
        matches("b1;a1", 1, 0, 1);
    }

    static void p27_ofAsGoodOnesTheFewestPairs() {
        matches("b1;a1;c1;d1", 2, 1, 3);
    }

    static void p27_ofAsFewPairsTheLeastRow() {
        matches("d1;c1;b1;a1", 4, 0, 2, 1, 3);
        matches("h1;g1;f1;e1;d1;c1;b1;a1", 16, 0, 4, 1, 5, 2, 6, 3, 7);
    }

    static void p27_nobodyInTwo() {
        matches("c1;b1;a1", 2, 0, 2);
    }

    static void p27_theLesserNumberFirst() {
        matches("a1;b1;c1", 1, 0, 2);
    }

    static void p27_byTheNamesAsTheyAre() {
        WaterByLetters w = Checks.town("b1;a1");
        w.matches();
        Edges.row(w, 0, 1);
        w.marry(0, 1);
        w.keep(0);
        Edges.is("like names", w.matches(), 0);
        Edges.row(w);
        w.undo();
        Edges.is("the name as it was", w.matches(), 1);
        Edges.row(w, 0, 1);
    }

    static void p27_changesNothing() {
        Edges.question("matches()", WaterByLetters::matches);
    }

    // ---- promise 28: lines

    private static void lines(String houses, String text, int due, long struck) {
        WaterByLetters w = Checks.text(Checks.town(houses), text);
        Edges.is("lines() '" + text + "' of " + houses, w.lines(), due);
        Edges.row(w, struck);
        Edges.is("count(11)", w.count(11), 0);
    }

    static void p28_anEmptyTextTellsNone() {
        lines("", "", 0, 0);
        lines(Edges.FOUR, "", 0, 0);
    }

    static void p28_noSuchHouse() {
        Edges.fault("4", -1, LINES);
        Edges.fault("0124", -4, LINES);
        Edges.fault("9", -1, LINES);
        Edges.is("without houses", Checks.text(new WaterByLetters(), "0").lines(), -1);
        Edges.is("a ninth", Checks.text(Checks.town(Edges.EIGHT), "012345678").lines(), -9);
    }

    static void p28_aHouseThatIsThereAlready() {
        Edges.fault("00", -2, LINES);
        Edges.fault("01230", -5, LINES);
        Edges.fault("3213", -4, LINES);
    }

    static void p28_aSignThatIsNoDigit() {
        Edges.fault("/", -1, LINES);
        Edges.fault("0:", -2, LINES);
        Edges.fault("0a", -2, LINES);
        Edges.fault("0;1", -2, LINES);
    }

    static void p28_allLinesOfEight() {
        lines(Edges.EIGHT, "01234567", 0, 0);
        lines(Edges.EIGHT, "76543210", 7, 127);
        lines(Edges.EIGHT, "12345670", 1, 1);
        lines(Edges.EIGHT, "70123456", 1, 128);
    }

    static void p28_oneLineIsInOrder() {
        lines(Edges.FOUR, "3", 0, 0);
    }

    static void p28_ofAsFewTheLeastBits() {
        lines("a1;b1", "10", 1, 1);
        lines("b1;a1", "01", 1, 1);
        lines(Edges.EIGHT, "1032", 2, 5);
    }

    static void p28_housesThatAreNotToldAreNotStruckOut() {
        lines(Edges.EIGHT, "75", 1, 32);
    }

    static void p28_changesNothing() {
        Edges.questionWithText("3210", LINES);
    }
}
