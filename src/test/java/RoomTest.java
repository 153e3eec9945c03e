import java.lang.management.ManagementFactory;

/** Runs of dear calls: they make no objects, a new object is small, and nothing but what is due is thrown. */
public final class RoomTest {
    private static final String[] TOWNS = {"be1;beb7;agbf1;hb4;da3;bc6;fg1;ahe8", "da5;dbfa5;bc5;f2;beba2;dcf1;gde6;g1",
        "abcdef9;abcdeg8;abcdeh7;abcdff6;abcdfg5;abcdfh4;abcdgf3;abcdgg2", "a1;b2;c3;d4;e5;f6;g7;h8", "a1;a1;a1;a1;a1;a1;a1;a1"};
    private static final String LONG_RULE = "((((h*2-d)+t)*n-1)/3)+(((d<5)*7)-(-h*3))";

    private static long allocated() {
        com.sun.management.ThreadMXBean bean = (com.sun.management.ThreadMXBean) ManagementFactory.getThreadMXBean();
        return bean.getThreadAllocatedBytes(Thread.currentThread().getId());
    }

    public static void main(String[] args) {
        boolean right = true;
        allocated();
        long before = allocated();
        WaterByLetters[] made = new WaterByLetters[100];
        for (int i = 0; i < made.length; i++) {
            made[i] = new WaterByLetters();
        }
        long each = (allocated() - before) / made.length;
        if (each > 40000) {
            right = false;
            System.out.println("a new object takes " + each + " bytes");
        }
        for (String town : TOWNS) {
            WaterByLetters w = Checks.town(town);
            Checks.text(w, LONG_RULE).rule();
            Checks.text(w, "01234567899876543210").heat();
            before = allocated();
            for (int i = 0; i < 20; i++) {
                dearCalls(w, i);
            }
            long taken = allocated() - before;
            if (taken > 2000) {
                right = false;
                System.out.println(town + ": calls made objects of " + taken + " bytes");
            }
        }
        System.out.println(right ? "the room is kept" : "the room is not kept");
        if (!right) {
            System.exit(1);
        }
    }

    private static void order(WaterByLetters w) {
        w.end(0);
        w.sign('h' << 24 | 'a' << 16 | 'g' << 8 | 'b');
        w.sign('f' << 24 | 'c' << 16 | 'e' << 8 | 'd');
    }

    private static void dearCalls(WaterByLetters w, int i) {
        w.fewest();
        w.likes(i % 8);
        w.rounds(60);
        w.years(i, 60);
        w.days(60);
        w.dry(i % 8, 60);
        order(w);
        w.votes();
        order(w);
        w.sways();
        w.matches();
        w.lot(i % 8);
        w.saw(i % 8, (i + 3) % 8);
        w.fits();
        w.sure(1, 2);
        w.ask();
        w.law();
        w.rests(i % 19);
        w.keep(i % 3);
        w.shares(99);
        w.initial(i % 8);
        w.lines();
        w.again(i % 3);
        w.undo();
    }
}
