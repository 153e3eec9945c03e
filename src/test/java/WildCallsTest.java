import java.util.NoSuchElementException;
import java.util.Random;

/** Runs of 512 calls with wild numbers and wild signs: nothing is thrown but where the document says so. */
public final class WildCallsTest {
    private static final int[] WILD = {Integer.MIN_VALUE, Integer.MIN_VALUE + 1, -10001, -100, -2, -1, 0, 1, 2, 3, 4, 5, 6, 7,
        8, 9, 10, 15, 18, 19, 20, 40, 59, 60, 61, 71, 80, 99, 100, 127, 128, 255, 256, 32768, 65536, Integer.MAX_VALUE};
    private static final String SIGNS = "abcdefgh123456789;0-+*/()<>=hdntmrs";

    private final Random random;
    private final WaterByLetters w = new WaterByLetters();

    private WildCallsTest(long seed) {
        random = new Random(seed);
    }

    public static void main(String[] args) {
        int wrong = 0;
        for (long seed = 0; seed < 400; seed++) {
            WildCallsTest test = new WildCallsTest(seed);
            for (int i = 0; i < 512; i++) {
                int which = test.random.nextInt(46);
                try {
                    test.call(which);
                } catch (NoSuchElementException e) {
                    if (which > 2) {
                        wrong++;
                        System.out.println("seed " + seed + ": call " + which + " threw " + e);
                    }
                } catch (RuntimeException e) {
                    wrong++;
                    System.out.println("seed " + seed + ": call " + which + " threw " + e);
                }
            }
        }
        System.out.println(wrong == 0 ? "nothing was thrown that is not due" : wrong + " calls threw");
        if (wrong != 0) {
            System.exit(1);
        }
    }

    private int any() {
        switch (random.nextInt(5)) {
            case 0:
                return random.nextInt();
            case 1:
                return WILD[random.nextInt(WILD.length)];
            default:
                return random.nextInt(9);
        }
    }

    private int signs() {
        int v = 0;
        for (int i = 0; i < 4; i++) {
            v = v << 8 | SIGNS.charAt(random.nextInt(SIGNS.length()));
        }
        return v;
    }

    private void call(int which) {
        switch (which) {
            case 0: w.house(any(), any()); break;
            case 1: w.letter(any(), any()); break;
            case 2: w.row(any()); break;
            case 3: w.end(any()); break;
            case 4: w.houses(); break;
            case 5: w.heat(); break;
            case 6: w.rule(); break;
            case 7: w.sheet(any(), any(), any(), any()); break;
            case 8: w.order(); break;
            case 9: w.name(any()); break;
            case 10: w.marry(any(), any()); break;
            case 11: w.days(any()); break;
            case 12: w.year(); break;
            case 13: w.undo(); break;
            case 14: w.book(); break;
            case 15: w.yields(any()); break;
            case 16: w.stops(); break;
            case 17: w.dry(any(), any()); break;
            case 18: w.waits(); break;
            case 19: w.fewest(); break;
            case 20: w.likes(any()); break;
            case 21: w.rounds(any()); break;
            case 22: w.votes(); break;
            case 23: w.sways(); break;
            case 24: w.initial(any()); break;
            case 25: w.matches(); break;
            case 26: w.lines(); break;
            case 27: w.lot(any()); break;
            case 28: w.shares(any()); break;
            case 29: w.saw(any(), any()); break;
            case 30: w.forget(); break;
            case 31: w.fits(); break;
            case 32: w.sure(any(), any()); break;
            case 33: w.ask(); break;
            case 34: w.law(); break;
            case 35: w.rests(any()); break;
            case 36: w.years(any(), any()); break;
            case 37: w.keep(any()); break;
            case 38: w.again(any()); break;
            case 39: w.count(any()); break;
            case 40: Checks.text(w, "a" + (1 + random.nextInt(9)) + ";" + "bh7").houses(); break;
            case 41: Checks.text(w, PlainModel.ORDERS.get(random.nextInt(40320))).order(); break;
            case 42: Checks.text(w, "d3rsm01m10d1").year(); break;
            default: w.sign(random.nextInt(3) == 0 ? any() : signs()); break;
        }
    }
}
