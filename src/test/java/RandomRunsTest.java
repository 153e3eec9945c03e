import java.util.NoSuchElementException;
import java.util.Random;

/** Runs of drawn calls: the class answers as the plain model does, and all that can be asked is alike. */
public final class RandomRunsTest {
    private static final long THROWN = Long.MIN_VALUE;
    private static int wrong = 0;

    private final Random random;
    private final WaterByLetters real = new WaterByLetters();
    private final PlainModel model = new PlainModel();
    private final StringBuilder told = new StringBuilder();

    private RandomRunsTest(long seed) {
        random = new Random(seed);
        told.append("seed ").append(seed).append(':');
    }

    public static void main(String[] args) {
        int runs = args.length > 0 ? Integer.parseInt(args[0]) : 1500;
        long from = args.length > 1 ? Long.parseLong(args[1]) : 0;
        for (long seed = from; seed < from + runs && wrong < 10; seed++) {
            new RandomRunsTest(seed).run();
        }
        System.out.println(wrong == 0 ? "all drawn runs are as the model's" : wrong + " drawn runs are not");
        if (wrong != 0) {
            System.exit(1);
        }
    }

    private void run() {
        int calls = 20 + random.nextInt(60);
        for (int i = 0; i < calls; i++) {
            if (!step() || !sameState()) {
                wrong++;
                System.out.println(told);
                return;
            }
        }
    }

    private boolean same(String call, long got, long due) {
        told.append(' ').append(call);
        if (got != due) {
            told.append(" answered ").append(got).append(", due is ").append(due);
        }
        return got == due;
    }

    private boolean sameState() {
        for (int i = -1; i <= 12; i++) {
            if (real.count(i) != model.count(i)) {
                return same("count(" + i + ")", real.count(i), model.count(i));
            }
        }
        for (int i = -1; i <= model.row.size(); i++) {
            long got = realRow(i);
            long due = modelRow(i);
            if (got != due) {
                return same("row(" + i + ")", got, due);
            }
        }
        return random.nextInt(4) > 0 || sameHouses();
    }

    private boolean sameHouses() {
        for (int h = -1; h <= 8; h++) {
            for (int what = -1; what <= 6; what++) {
                long got;
                long due;
                try {
                    got = real.house(h, what);
                } catch (NoSuchElementException e) {
                    got = THROWN;
                }
                try {
                    due = model.house(h, what);
                } catch (NoSuchElementException e) {
                    due = THROWN;
                }
                if (got != due) {
                    return same("house(" + h + "," + what + ")", got, due);
                }
                try {
                    got = real.letter(h, what);
                } catch (NoSuchElementException e) {
                    got = THROWN;
                }
                try {
                    due = model.letter(h, what);
                } catch (NoSuchElementException e) {
                    due = THROWN;
                }
                if (got != due) {
                    return same("letter(" + h + "," + what + ")", got, due);
                }
            }
        }
        return true;
    }

    private long realRow(int i) {
        try {
            return real.row(i);
        } catch (NoSuchElementException e) {
            return THROWN;
        }
    }

    private long modelRow(int i) {
        try {
            return model.row(i);
        } catch (NoSuchElementException e) {
            return THROWN;
        }
    }

    // ---- drawn texts

    private char letter() {
        return (char) ('a' + random.nextInt(random.nextInt(3) == 0 ? 8 : 4));
    }

    private String name() {
        StringBuilder s = new StringBuilder();
        for (int n = 1 + random.nextInt(random.nextInt(3) == 0 ? 6 : 3); n > 0; n--) {
            s.append(letter());
        }
        return s.toString();
    }

    private String housesText() {
        StringBuilder s = new StringBuilder();
        for (int n = 1 + random.nextInt(random.nextInt(2) == 0 ? 8 : 3); n > 0; n--) {
            s.append(name()).append((char) ('1' + random.nextInt(9))).append(n > 1 ? ";" : "");
        }
        return s.toString();
    }

    private String digits(int most) {
        StringBuilder s = new StringBuilder();
        for (int n = 1 + random.nextInt(most); n > 0; n--) {
            s.append((char) ('0' + random.nextInt(10)));
        }
        return s.toString();
    }

    private String thing(int depth) {
        String minus = random.nextInt(6) == 0 ? "-" : "";
        switch (random.nextInt(depth > 3 ? 5 : 6)) {
            case 0:
            case 1:
                return minus + digits(random.nextInt(3) == 0 ? 3 : 2);
            case 5:
                return minus + "(" + expression(depth + 1) + ")";
            default:
                return minus + "hdnt".charAt(random.nextInt(4));
        }
    }

    private String expression(int depth) {
        StringBuilder s = new StringBuilder(thing(depth));
        boolean compared = false;
        for (int n = random.nextInt(4); n > 0; n--) {
            int op = random.nextInt(compared ? 4 : 6);
            compared |= op > 3;
            s.append(op > 3 ? "<>=".charAt(random.nextInt(3)) : "+-*/".charAt(op)).append(thing(depth));
        }
        return s.toString();
    }

    private String orderText() {
        if (random.nextInt(3) == 0) {
            return PlainModel.turned(model.now.order);
        }
        return PlainModel.ORDERS.get(random.nextInt(40320));
    }

    private String yearText() {
        StringBuilder s = new StringBuilder();
        for (int n = random.nextInt(8); n > 0; n--) {
            switch (random.nextInt(4)) {
                case 0:
                    s.append('d').append(random.nextInt(10));
                    break;
                case 1:
                    s.append('m').append(someHouse()).append(someHouse());
                    break;
                case 2:
                    s.append('r');
                    break;
                default:
                    s.append('s');
            }
        }
        return s.toString();
    }

    private int someHouse() {
        int n = model.thirst.size();
        return n == 0 || random.nextInt(20) == 0 ? random.nextInt(10) : random.nextInt(n);
    }

    private String bookText() {
        StringBuilder s = new StringBuilder();
        String left = "01234567".substring(0, model.thirst.size());
        for (int n = random.nextInt(9); n > 0 && !left.isEmpty(); n--) {
            int i = random.nextInt(left.length());
            s.append(left.charAt(i));
            left = left.substring(0, i) + left.substring(i + 1);
        }
        return s.toString();
    }

    /** At times a text is spoilt: a sign changed, put in, left out; doubled; cut. */
    private String spoil(String s) {
        if (random.nextInt(5) > 0) {
            return s;
        }
        int p = random.nextInt(s.length() + 1);
        String any = "abcdefghi0123456789;-+*/()<>=hdntmrsx" + (char) 200 + (char) 0;
        char c = any.charAt(random.nextInt(any.length()));
        switch (random.nextInt(6)) {
            case 0:
                return s.substring(0, p) + c + s.substring(p);
            case 1:
                return s.substring(0, p);
            case 2:
                return s.substring(0, p) + c + s.substring(Math.min(s.length(), p + 1));
            case 3:
                return s + s;
            case 4:
                return s + "+" + s + "*" + s + "-" + s + "+" + s;
            default:
                return "";
        }
    }

    private void write(String s) {
        String cut = s.length() > 80 ? s.substring(0, 80) : s;
        told.append(" '").append(cut).append('\'');
        if (random.nextInt(3) > 0) {
            real.end(0);
            model.end(0);
        }
        int before = model.text.length();
        for (int i = 0; i < cut.length(); i += 4) {
            int v = 0;
            for (int j = 0; j < 4; j++) {
                v = v << 8 | (i + j < cut.length() ? cut.charAt(i + j) : random.nextInt(256));
            }
            same("sign(" + v + ")", real.sign(v), model.sign(v));
        }
        int length = before + cut.length();
        same("end(" + length + ")", real.end(length) ? 1 : 0, model.end(length) ? 1 : 0);
    }

    private int number(int most) {
        return random.nextInt(8) == 0 ? random.nextInt(3 * most + 3) - most - 1 : random.nextInt(most + 1);
    }

    // ---- drawn calls

    private boolean step() {
        int a = someHouse();
        int b = someHouse();
        int n = number(60);
        int kind = random.nextInt(100);
        if (kind < 40) {
            return stepWithText(a);
        }
        switch (kind) {
            case 40: case 41: case 42: {
                int k = number(3);
                int f = random.nextInt(4) == 0 ? random.nextInt() : random.nextInt(20) - 5;
                int s = random.nextInt(4) == 0 ? random.nextInt() : random.nextInt(7) - 3;
                int e = number(8);
                return same("sheet(" + k + "," + e + "," + f + "," + s + ")", real.sheet(k, e, f, s),
                        model.sheet(k, e, f, s));
            }
            case 43: case 44: case 45: case 46:
                return same("marry(" + a + "," + b + ")", real.marry(a, b), model.marry(a, b));
            case 47: case 48: case 49: case 50:
                n = random.nextInt(3) == 0 ? n : random.nextInt(4);
                return same("days(" + n + ")", real.days(n), model.days(n));
            case 51: case 52: case 53: case 54:
                return same("undo()", real.undo(), model.undo());
            case 55: case 56:
                return same("book()", real.book(), model.book());
            case 57: case 58:
                n = number(99);
                return same("yields(" + n + ")", real.yields(n), model.yields(n));
            case 59: case 60:
                return same("stops()", real.stops(), model.stops());
            case 61: case 62:
                return same("dry(" + a + "," + n + ")", real.dry(a, n), model.dry(a, n));
            case 63: case 64:
                return same("waits()", real.waits(), model.waits());
            case 65: case 66:
                return same("fewest()", real.fewest(), model.fewest());
            case 67:
                return same("likes(" + a + ")", real.likes(a), model.likes(a));
            case 68: case 69:
                return same("rounds(" + n + ")", real.rounds(n), model.rounds(n));
            case 70: case 71:
                return same("initial(" + a + ")", real.initial(a), model.initial(a));
            case 72: case 73:
                return same("matches()", real.matches(), model.matches());
            case 74:
                return same("lot(" + a + ")", real.lot(a), model.lot(a));
            case 75: case 76:
                n = number(99);
                return same("shares(" + n + ")", real.shares(n), model.shares(n));
            case 77: case 78: case 79: case 80: case 81: case 82:
                return same("saw(" + a + "," + b + ")", real.saw(a, b), model.saw(a, b));
            case 83:
                return random.nextInt(2) == 0 || same("forget()", real.forget(), model.forget());
            case 84: case 85:
                return same("fits()", real.fits(), model.fits());
            case 86: case 87: {
                int i = number(7);
                int j = number(7);
                return same("sure(" + i + "," + j + ")", real.sure(i, j), model.sure(i, j));
            }
            case 88:
                return same("ask()", real.ask(), model.ask());
            case 89:
                n = number(18);
                return same("rests(" + n + ")", real.rests(n), model.rests(n));
            case 90: case 91: case 92: {
                int seed = random.nextInt();
                return same("years(" + seed + "," + n + ")", real.years(seed, n), model.years(seed, n));
            }
            case 93: case 94: case 95:
                n = number(2);
                return same("keep(" + n + ")", real.keep(n) ? 1 : 0, model.keep(n) ? 1 : 0);
            case 96: case 97:
                n = number(2);
                return same("again(" + n + ")", real.again(n) ? 1 : 0, model.again(n) ? 1 : 0);
            case 98:
                n = number(80);
                return same("end(" + n + ")", real.end(n) ? 1 : 0, model.end(n) ? 1 : 0);
            default:
                n = random.nextInt();
                return same("sign(" + n + ")", real.sign(n), model.sign(n));
        }
    }

    private boolean stepWithText(int a) {
        switch (random.nextInt(17)) {
            case 0: case 1: case 2:
                write(spoil(housesText()));
                return same("houses()", real.houses(), model.houses());
            case 3:
                write(spoil(digits(20)));
                return same("heat()", real.heat(), model.heat());
            case 4: case 5:
                write(spoil(expression(0)));
                return same("rule()", real.rule(), model.rule());
            case 6: case 7:
                write(spoil(orderText()));
                return same("order()", real.order(), model.order());
            case 8: case 9:
                write(spoil(name()));
                return same("name(" + a + ")", real.name(a), model.name(a));
            case 10: case 11: case 12:
                write(spoil(yearText()));
                return same("year()", real.year(), model.year());
            case 13:
                write(spoil(orderText()));
                return same("votes()", real.votes(), model.votes());
            case 14:
                write(spoil(orderText()));
                return same("sways()", real.sways(), model.sways());
            case 15:
                write(spoil(bookText()));
                return same("lines()", real.lines(), model.lines());
            default:
                write(spoil(expression(0)));
                return same("law()", real.law(), model.law());
        }
    }
}
