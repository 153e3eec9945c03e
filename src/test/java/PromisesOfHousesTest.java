/** Promises 1 to 9: a new object, texts, houses, heat, the rule, sheets. */
public final class PromisesOfHousesTest {
    private static final Checks CHECKS = new Checks();
    private static final String EIGHT = "a1;b2;c3;d4;e5;f6;g7;h8";

    public static void main(String[] args) {
        newObject();
        signs();
        ends();
        housesThatCome();
        housesThatCannot();
        heats();
        rulesThatAreRight();
        rulesThatAreWrong();
        houseByHouse();
        lettersOfNames();
        sheets();
        CHECKS.close();
    }

    private static void newObject() {
        WaterByLetters w = new WaterByLetters();
        int[] due = {0, 0, 20, 0, 0, 0, 0, 1, 0, 0, 0, 0};
        for (int i = 0; i < due.length; i++) {
            CHECKS.due(1, "count(" + i + ")", w.count(i), due[i]);
        }
        CHECKS.due(1, "NONE", WaterByLetters.NONE, -1);
        CHECKS.due(1, "undo()", w.undo(), -1);
        CHECKS.due(1, "again(0)", w.again(0), false);
        Checks.text(w, "h1;g1;f1;e1;d1;c1;b1;a1").houses();
        w.book();
        CHECKS.row(1, "book()", w, 7, 6, 5, 4, 3, 2, 1, 0);
    }

    private static void signs() {
        WaterByLetters w = new WaterByLetters();
        for (int i = 1; i <= 20; i++) {
            CHECKS.due(2, "sign()", w.sign('1' << 24 | '2' << 16 | '3' << 8 | '4'), 4 * i);
        }
        CHECKS.due(2, "sign() of 84", w.sign(0), -1);
        CHECKS.due(2, "count(11)", w.count(11), 80);
        w.end(77);
        CHECKS.due(2, "sign() of 81", w.sign(0), -1);
        CHECKS.due(2, "count(11)", w.count(11), 77);
        w.end(76);
        CHECKS.due(2, "sign() of 80", w.sign(0), 80);
        w.end(20);
        CHECKS.due(2, "heat()", w.heat(), 20);
        CHECKS.due(2, "yields(2)", w.yields(2), 14);
        CHECKS.due(2, "yields(3)", w.yields(3), 12);
        w.sign('a' << 24 | 'b' << 16 | '7' << 8 | 200);
        w.end(3);
        CHECKS.due(2, "houses()", w.houses(), 1);
        CHECKS.due(2, "letter(0, 1)", w.letter(0, 1), 1);
        CHECKS.due(2, "house(0, 1)", w.house(0, 1), 7);
        CHECKS.due(2, "sign(-1)", w.sign(-1), 4);
        CHECKS.due(2, "houses()", w.houses(), -1);
    }

    private static void ends() {
        WaterByLetters w = new WaterByLetters();
        CHECKS.due(3, "end(1)", w.end(1), false);
        CHECKS.due(3, "end(-1)", w.end(-1), false);
        CHECKS.due(3, "end(0)", w.end(0), true);
        w.sign('a' << 24 | '1' << 16);
        CHECKS.due(3, "end(5)", w.end(5), false);
        CHECKS.due(3, "end(MIN)", w.end(Integer.MIN_VALUE), false);
        CHECKS.due(3, "count(11)", w.count(11), 4);
        CHECKS.due(3, "end(4)", w.end(4), true);
        CHECKS.due(3, "end(2)", w.end(2), true);
        CHECKS.due(3, "end(3)", w.end(3), false);
        CHECKS.due(3, "count(11)", w.count(11), 2);
        CHECKS.due(3, "houses()", w.houses(), 1);
    }

    private static int houses(WaterByLetters w, String s) {
        int answer = Checks.text(w, s).houses();
        CHECKS.due(4, "count(11) behind " + s, w.count(11), 0);
        return answer;
    }

    private static void housesThatCome() {
        WaterByLetters w = new WaterByLetters();
        CHECKS.due(4, "houses() of none", houses(w, ""), 0);
        CHECKS.due(4, "two", houses(w, "ba5;abcdef9"), 2);
        CHECKS.due(4, "one more", houses(w, "h1"), 1);
        CHECKS.due(4, "count(0)", w.count(0), 3);
        CHECKS.due(4, "house(1, 0)", w.house(1, 0), 6);
        CHECKS.due(4, "house(2, 1)", w.house(2, 1), 1);
        CHECKS.due(4, "house(2, 2)", w.house(2, 2), 0);
        CHECKS.due(4, "house(2, 3)", w.house(2, 3), 0);
        CHECKS.due(4, "five more", houses(w, "a1;a1;a1;a1;a1"), 5);
        CHECKS.due(4, "no room", houses(w, "a1"), -1);
        CHECKS.due(4, "no room, wrong", houses(w, "x"), -1);
        CHECKS.due(4, "none more", houses(w, ""), 0);
        CHECKS.due(4, "count(0)", w.count(0), 8);
        String long8 = "abcdef1;abcdef2;abcdef3;abcdef4;abcdef5;abcdef6;abcdef7;abcdef8";
        CHECKS.due(4, "63 signs", houses(new WaterByLetters(), long8), 8);
        CHECKS.due(4, "a ninth of 71 signs", houses(new WaterByLetters(), long8 + ";abcdef9"), -65);
        CHECKS.due(4, "a ninth of 80 signs", houses(new WaterByLetters(), long8 + ";abcdef9;aaaaaaaa"), -65);
    }

    private static void housesThatCannot() {
        String[] texts = {"1", "a", "a0", "A1", "i1", "abcdefg1", "abcdef", "abcdefa", "a1a", "a11", "a1;", "a1;;",
            "a1;2", "a1;b", ";", "a1b2", "ab" + (char) 0 + "1", "a1 ", EIGHT + ";", EIGHT + ";a1", EIGHT + ";;"};
        int[] faults = {0, 1, 1, 0, 0, 6, 6, 6, 2, 2, 3, 3, 3, 4, 0, 2, 2, 2, 24, 24, 24};
        WaterByLetters w = new WaterByLetters();
        for (int i = 0; i < texts.length; i++) {
            CHECKS.due(4, "houses() of " + texts[i], houses(w, texts[i]), -1 - faults[i]);
            CHECKS.due(4, "count(0) behind " + texts[i], w.count(0), 0);
        }
        houses(w, "a1;b1;c1;d1;e1;f1");
        CHECKS.due(4, "three for two", houses(w, "a1;a1;a1"), -7);
        CHECKS.due(4, "count(0)", w.count(0), 6);
        CHECKS.due(4, "count(3)", w.count(3), 6);
        CHECKS.due(4, "two for two", houses(w, "a1;a1"), 2);
    }

    private static void heats() {
        WaterByLetters w = new WaterByLetters();
        CHECKS.due(5, "heat() of none", w.heat(), -1);
        CHECKS.due(5, "count(7)", w.count(7), 1);
        CHECKS.due(5, "heat() 123", Checks.text(w, "123").heat(), 3);
        CHECKS.due(5, "count(11)", w.count(11), 0);
        int[] due = {18, 16, 14, 18};
        for (int i = 0; i < due.length; i++) {
            CHECKS.due(5, "yields(" + i + ")", w.yields(i), due[i]);
        }
        CHECKS.due(5, "21 signs", Checks.text(w, "000000000000000000000").heat(), -21);
        CHECKS.due(5, "24 signs, one wrong", Checks.text(w, "0000000000000000000x0000").heat(), -20);
        CHECKS.due(5, "12:", Checks.text(w, "12:").heat(), -3);
        CHECKS.due(5, "-1", Checks.text(w, "-1").heat(), -1);
        CHECKS.due(5, "count(7)", w.count(7), 3);
        CHECKS.due(5, "count(11)", w.count(11), 0);
        CHECKS.due(5, "20 signs", Checks.text(w, "00000000000000000009").heat(), 20);
        CHECKS.due(5, "yields(19)", w.yields(19), 2);
        CHECKS.due(5, "yields(39)", w.yields(39), 2);
        CHECKS.due(5, "yields(20)", w.yields(20), 20);
        w.days(19);
        CHECKS.due(5, "count(2)", w.count(2), 2);
    }

    private static void rulesThatAreRight() {
        // On DAY 13, HEAT 4, three HOUSES, THIRST 15 of all.
        String[] rules = {"h", "d", "n", "t", "0", "7", "99", "100", "999", "-1", "--5", "---5+9", "2+3*4", "20-5-4",
            "20/3/2", "100/7", "-7/2+9", "7/-2+9", "-7/-2", "7/0", "7/(h-4)+1", "(2+3)*4", "2<3", "3<2", "2>3", "3>2", "3=3",
            "3=2", "(1<2)<3", "(3>2)>0", "1+1<3*1", "5*(h=4)+2", "((((9))))", "10--3", "10-(-3)", "2*-3+20", "t-n*h",
            "t*d/n", "007", "8/3*3", "8*3/3", "50000*1", "999*999*999*999", "999*999*999*9*-1", "1-2+3", "2-(3-4)",
            "-(1-5)", "-h+9", "20-h*2", "1<2+5*(2>1)", "(1<2)+(2>1)+(1=1)", "-(3<4)+5", "h*h-d*d", "12/(1-1)+3",
            "(((1)+((2))))*3", "999*999*999/999"};
        int[] due = {4, 3, 3, 15, 0, 7, 99, 99, 99, 0, 5, 4, 14, 11,
            3, 14, 6, 6, 3, 0, 1, 20, 1, 0, 0, 1, 1,
            0, 1, 1, 1, 7, 9, 13, 13, 14, 3,
            15, 7, 6, 8, -1, 99, 99, 2, 3,
            4, 5, 12, 1, 3, 4, 7, 3,
            9, 0};
        due[42] = clamp(999 * 999 * 999 * 999);
        due[43] = clamp(-(999 * 999 * 999 * 9));
        due[55] = clamp(999 * 999 * 999 / 999);
        WaterByLetters w = Checks.town("a4;b5;c6");
        Checks.text(w, "4").heat();
        w.days(13);
        for (int i = 0; i < rules.length; i++) {
            boolean right = due[i] >= 0;
            CHECKS.due(6, "rule() " + rules[i], Checks.text(w, rules[i]).rule(), right ? 0 : -4);
            CHECKS.due(6, "count(11)", w.count(11), 0);
            if (right) {
                CHECKS.due(6, "count(2) by " + rules[i], w.count(2), due[i]);
            }
        }
        CHECKS.due(6, "rule() of none", w.rule(), 0);
        CHECKS.due(6, "count(2) by none", w.count(2), 12);
    }

    private static int clamp(int v) {
        return Math.max(0, Math.min(99, v));
    }

    private static void rulesThatAreWrong() {
        String forty = "1+1+1+1+1+1+1+1+1+1+1+1+1+1+1+1+1+1+1+-1";
        String minuses = "---------------------------------------";
        String[] texts = {"-", "+1", "1+", "1++1", "1*", "1*/2", "()", "(", "(1", "1)", "(1))", "1234", "1 +2", "x", "hh",
            "h1", "1h", "(1)2", "2(1)", "(1)(2)", "1<", "<1", "1<2<3", "1<2>3", "1=2=3", "1<2+3=4", "(1<2<3)", "(1<2)<3<4",
            "(((((1)))))", "((((1))))=1=", "((((", "1*(2+", "a", "b+1", "1==2", "1<=2", forty + "+1", forty + "x",
            forty.substring(0, 39) + "+1", minuses + "-1", "1+x" + forty, minuses + "-", "12+345+6789", "()1",
            "h<(d<n)<t", "h<(d<n<t)", "1-)"};
        int[] faults = {1, 0, 2, 2, 2, 2, 1, 1, 2, 1, 3, 3, 1, 0, 1,
            1, 1, 3, 1, 3, 2, 0, 3, 3, 3, 5, 4, 7,
            4, 11, 4, 5, 0, 0, 2, 2, 40, 40,
            39, 40, 2, 40, 10, 1,
            7, 6, 2};
        WaterByLetters w = new WaterByLetters();
        Checks.text(w, "33").rule();
        for (int i = 0; i < texts.length; i++) {
            CHECKS.due(6, "rule() " + texts[i], Checks.text(w, texts[i]).rule(), -1 - faults[i]);
            CHECKS.due(6, "count(2)", w.count(2), 33);
            CHECKS.due(6, "count(11)", w.count(11), 0);
        }
        CHECKS.due(6, "40 signs", Checks.text(w, forty).rule(), 0);
        CHECKS.due(6, "count(2) by 40 signs", w.count(2), 18);
        CHECKS.due(6, "39 minuses", Checks.text(w, minuses + "5").rule(), 0);
        CHECKS.due(6, "count(2) by 39 minuses", w.count(2), 0);
    }

    private static void houseByHouse() {
        WaterByLetters w = Checks.town("ba5;ab4;a9;bad3");
        int[][] due = {{2, 5, 0, 0, 2, 5}, {2, 4, 0, 0, 1, 4}, {1, 9, 0, 0, 0, 9}, {3, 3, 0, 0, 3, 2}};
        for (int h = 0; h < 4; h++) {
            for (int what = 0; what < 6; what++) {
                CHECKS.due(7, "house(" + h + ", " + what + ")", w.house(h, what), due[h][what]);
            }
        }
        w.days(2);
        CHECKS.due(7, "house(3, 2)", w.house(3, 2), 2);
        CHECKS.due(7, "house(3, 3)", w.house(3, 3), 4);
        CHECKS.due(7, "house(2, 3)", w.house(2, 3), 18);
        CHECKS.throwsNoSuch(7, "house(4, 0)", () -> w.house(4, 0));
        CHECKS.throwsNoSuch(7, "house(-1, 0)", () -> w.house(-1, 0));
        CHECKS.throwsNoSuch(7, "house(0, 6)", () -> w.house(0, 6));
        CHECKS.throwsNoSuch(7, "house(0, -1)", () -> w.house(0, -1));
        CHECKS.throwsNoSuch(7, "house(9, 9)", () -> w.house(9, 9));
    }

    private static void lettersOfNames() {
        WaterByLetters w = Checks.town("abcdef1;h2");
        for (int i = 0; i < 6; i++) {
            CHECKS.due(8, "letter(0, " + i + ")", w.letter(0, i), i);
        }
        CHECKS.due(8, "letter(1, 0)", w.letter(1, 0), 7);
        CHECKS.throwsNoSuch(8, "letter(0, 6)", () -> w.letter(0, 6));
        CHECKS.throwsNoSuch(8, "letter(1, 1)", () -> w.letter(1, 1));
        CHECKS.throwsNoSuch(8, "letter(0, -1)", () -> w.letter(0, -1));
        CHECKS.throwsNoSuch(8, "letter(2, 0)", () -> w.letter(2, 0));
        CHECKS.throwsNoSuch(8, "letter(-1, 0)", () -> w.letter(-1, 0));
    }

    private static void thirsts(WaterByLetters w, String what, int... due) {
        for (int h = 0; h < due.length; h++) {
            CHECKS.due(9, what + ", house(" + h + ", 1)", w.house(h, 1), due[h]);
        }
    }

    private static void sheets() {
        WaterByLetters w = Checks.town("a5;b5;c5;d5");
        CHECKS.due(9, "ints", w.sheet(2, 3, 2, 3), 2 + 5 + 8 + 1);
        thirsts(w, "ints", 2, 5, 8, 1);
        CHECKS.due(9, "too great, too small", w.sheet(2, 4, 12, -4), 9 + 8 + 4 + 1);
        thirsts(w, "too great, too small", 9, 8, 4, 1);
        CHECKS.due(9, "bytes", w.sheet(0, 4, 254, 3), 1 + 1 + 4 + 7);
        thirsts(w, "bytes", 1, 1, 4, 7);
        CHECKS.due(9, "bytes above", w.sheet(0, 2, 127, 1), 9 + 1 + 1 + 1);
        CHECKS.due(9, "shorts", w.sheet(1, 3, 65536 + 4, 65536), 4 + 4 + 4 + 1);
        CHECKS.due(9, "shorts above", w.sheet(1, 2, 32767, 1), 9 + 1 + 1 + 1);
        CHECKS.due(9, "ints above", w.sheet(2, 2, Integer.MAX_VALUE, 1), 9 + 1 + 1 + 1);
        CHECKS.due(9, "more entries than houses", w.sheet(2, 8, 1, 1), 1 + 2 + 3 + 4);
        CHECKS.due(9, "n -1", w.sheet(2, -1, 9, 9), -2);
        CHECKS.due(9, "n -1", w.sheet(0, Integer.MIN_VALUE, 9, 9), -2);
        CHECKS.due(9, "n 9", w.sheet(2, 9, 9, 9), -1);
        CHECKS.due(9, "kind 4", w.sheet(4, 1, 9, 9), -1);
        CHECKS.due(9, "kind -1", w.sheet(-1, -1, 9, 9), -1);
        CHECKS.due(9, "missing, n 9", w.sheet(3, 9, 9, 9), -1);
        thirsts(w, "refused", 1, 2, 3, 4);
        CHECKS.due(9, "missing", w.sheet(3, 4, 9, 9), -3);
        thirsts(w, "missing", 1, 1, 1, 1);
        w.sheet(2, 4, 5, 0);
        CHECKS.due(9, "missing, n -1", w.sheet(3, -1, 9, 9), -3);
        thirsts(w, "missing, n -1", 1, 1, 1, 1);
        w.sheet(2, 4, 5, 0);
        CHECKS.due(9, "of no entries", w.sheet(1, 0, 9, 9), 4);
        CHECKS.due(9, "count(3)", w.count(3), 4);
        CHECKS.due(9, "without houses", new WaterByLetters().sheet(2, 3, 5, 0), 0);
        w.days(1);
        w.sheet(2, 4, 7, 0);
        w.undo();
        thirsts(w, "undone", 7, 7, 7, 7);
    }
}
