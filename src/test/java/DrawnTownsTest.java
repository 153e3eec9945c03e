import java.util.Arrays;
import java.util.Random;

/** Drawn towns, with few letters so that wishes collide: what the class seeks is what the plain model finds. */
public final class DrawnTownsTest {
    private static int wrong = 0;
    private static int asked = 0;

    public static void main(String[] args) {
        int towns = args.length > 0 ? Integer.parseInt(args[0]) : 400;
        long from = args.length > 1 ? Long.parseLong(args[1]) : 0;
        for (long seed = from; seed < from + towns && wrong < 10; seed++) {
            ask(new Random(seed), seed);
        }
        System.out.println(asked + " answers, " + wrong + " not as the model's");
        if (wrong != 0) {
            System.exit(1);
        }
    }

    private static String houses(Random random) {
        int letters = 2 + random.nextInt(7);
        int longest = 1 + random.nextInt(4);
        int thirst = 1 + random.nextInt(9);
        StringBuilder s = new StringBuilder();
        int many = random.nextInt(4) == 0 ? 1 + random.nextInt(8) : 8;
        for (int i = 0; i < many; i++) {
            s.append(i > 0 ? ";" : "");
            for (int j = random.nextInt(longest); j >= 0; j--) {
                s.append((char) ('h' - random.nextInt(letters)));
            }
            s.append(10 - 1 - random.nextInt(thirst));
        }
        return s.toString();
    }

    private static void put(WaterByLetters real, PlainModel model, String text) {
        Checks.text(real, text);
        model.text = text;
    }

    private static void same(long seed, String what, long got, long due, WaterByLetters real, PlainModel model) {
        asked++;
        long[] row = Checks.rowOf(real);
        long[] dueRow = model.row.stream().mapToLong(Long::longValue).toArray();
        if (got != due || !Arrays.equals(row, dueRow)) {
            wrong++;
            System.out.println("town " + seed + " " + model.now.names + model.thirst + ": " + what + " answered " + got + " "
                    + Arrays.toString(row) + ", due is " + due + " " + Arrays.toString(dueRow));
        }
    }

    private static void ask(Random random, long seed) {
        WaterByLetters real = new WaterByLetters();
        PlainModel model = new PlainModel();
        String houses = houses(random);
        put(real, model, houses);
        same(seed, "houses()", real.houses(), model.houses(), real, model);
        int all = model.thirst.size();
        put(real, model, "" + random.nextInt(1 + PlainModel.sum(model.thirst)));
        same(seed, "rule()", real.rule(), model.rule(), real, model);
        put(real, model, PlainModel.ORDERS.get(random.nextInt(40320)));
        same(seed, "order()", real.order(), model.order(), real, model);
        int h = random.nextInt(all);
        same(seed, "fewest()", real.fewest(), model.fewest(), real, model);
        same(seed, "likes(" + h + ")", real.likes(h), model.likes(h), real, model);
        same(seed, "initial(" + h + ")", real.initial(h), model.initial(h), real, model);
        same(seed, "matches()", real.matches(), model.matches(), real, model);
        same(seed, "waits()", real.waits(), model.waits(), real, model);
        String other = PlainModel.ORDERS.get(random.nextInt(40320));
        put(real, model, other);
        same(seed, "votes() " + other, real.votes(), model.votes(), real, model);
        put(real, model, other);
        same(seed, "sways() " + other, real.sways(), model.sways(), real, model);
        for (int i = random.nextInt(5); i > 0; i--) {
            int one = random.nextInt(all);
            int two = random.nextInt(all);
            same(seed, "saw(" + one + ", " + two + ")", real.saw(one, two), model.saw(one, two), real, model);
        }
        same(seed, "fits()", real.fits(), model.fits(), real, model);
        int i = random.nextInt(8);
        int j = random.nextInt(8);
        same(seed, "sure(" + i + ", " + j + ")", real.sure(i, j), model.sure(i, j), real, model);
        same(seed, "ask()", real.ask(), model.ask(), real, model);
    }
}
