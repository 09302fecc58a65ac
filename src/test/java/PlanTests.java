import java.util.Random;

/** Promise 24 where it is hardest: up to seven pages, long nights, doors of many kinds, against every plan there is. */
public final class PlanTests {
    private static final Checks check = new Checks();

    public static void main(String[] args) {
        int runs = args.length > 0 ? Integer.parseInt(args[0]) : 300;
        for (int seed = 0; seed < runs; seed++) {
            compare(new Random(seed), seed);
        }
        check.end("PlanTests");
    }

    private static void compare(Random random, int seed) {
        KeptPages x = new KeptPages();
        PlainModel m = new PlainModel();
        int pages = 4 + random.nextInt(4);
        int doors = 1 + random.nextInt(6);
        for (int p = 0; p < pages; p++) {
            int door = random.nextInt(doors);
            x.page(door);
            m.page(door);
        }
        look(random, x, m, pages);
        int night = pages == 7 ? 5 + random.nextInt(6) : 1 + random.nextInt(12);
        StringBuilder rights = new StringBuilder("night " + night + ";");
        for (int door = 0; door < 6; door++) {
            int let = 1 + random.nextInt(random.nextBoolean() ? 3 : 12);
            rights.append(random.nextInt(20) == 0 ? "never " + door : "let " + door + " each " + let).append(";");
        }
        String text = rights.toString();
        feed(x, m, text);
        int[] want = m.planOf((1 << pages) - 1);
        for (int i = -1; i < 12; i++) {
            check.due("seed " + seed + ": plan(" + ((1 << pages) - 1) + ", " + i + ") by " + text,
                x.plan((1 << pages) - 1, i), want[i + 1]);
        }
    }

    private static void look(Random random, KeptPages x, PlainModel m, int pages) {
        int looks = random.nextInt(40);
        for (int i = 0; i < looks; i++) {
            int p = random.nextInt(pages), n = random.nextInt(4);
            long set = random.nextInt(3);
            x.go(n);
            m.go(n);
            check.due("look", x.look(p, 0, set, -1), m.look(p, 0, set, -1));
        }
    }

    private static void feed(KeptPages x, PlainModel m, String text) {
        Checks.feed(x, text);
        for (int i = 0; i < text.length(); i++) m.feed(1, text.charAt(i));
        check.due("read() of \"" + text + "\"", x.read(), m.read());
    }
}
