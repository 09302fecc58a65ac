import java.util.Random;

/** Random runs of calls: the class and the plain model must answer the same; nothing may throw. */
public final class ModelTests {
    private static final int CALLS = 512;
    private static final String[] WORDS = {"never", "let", "each", "night", "patience", "clothes", "link", "row", "by",
        "times", "ever", ";", ",", " ", "x", "1000", "0", "60", "7", "00", "never 1;", "night 3;"};
    private static final long[] WILD = {Integer.MIN_VALUE, Integer.MAX_VALUE, Long.MIN_VALUE, Long.MAX_VALUE, -2, -1, 0,
        1, 2, 3, 5, 6, 11, 12, 59, 60, 63, 64, 99, 100, 200, 201, 500, 501, 999, 3000, 3001, 1L << 60, (1L << 60) - 1};
    private static final Checks check = new Checks();

    private final Random random;
    private final KeptPages x = new KeptPages();
    private final PlainModel m = new PlainModel();
    /** How rich the run is: few kinds of pieces make many pages alike. */
    private final int kinds;
    private final int longest;
    private final int wildness;
    private int calls = 0;
    private String last = "";

    private ModelTests(long seed) {
        random = new Random(seed);
        kinds = 1 + random.nextInt(6);
        longest = new int[] {1, 3, 30, 500}[random.nextInt(4)];
        wildness = new int[] {0, 1, 3, 30}[random.nextInt(4)];
    }

    public static void main(String[] args) {
        int runs = args.length > 0 ? Integer.parseInt(args[0]) : 1500;
        for (int seed = 0; seed < runs; seed++) {
            ModelTests run = new ModelTests(seed);
            try {
                run.go();
            } catch (RuntimeException e) {
                check.holds("seed " + seed + ": " + run.last + " threw " + e, false);
            }
        }
        check.end("ModelTests");
    }

    private void same(String call, long got, long want) {
        calls++;
        last = call;
        // What later calls answer is free.
        if (calls <= CALLS) check.due("call " + calls + ": " + call, got, want);
    }

    private int below(int n) {
        return n <= 0 ? 0 : random.nextInt(n);
    }

    /** Mostly within what there is, sometimes just beside it, sometimes far off. */
    private int near(int size) {
        if (random.nextInt(100) < wildness) return (int) WILD[below(WILD.length)];
        return random.nextInt(20) == 0 ? (random.nextBoolean() ? -1 : size) : below(size);
    }

    private int hour() {
        return near(m.count(0) + 1);
    }

    private int aPage() {
        return near(m.count(1));
    }

    private int aLook() {
        return near(m.count(2));
    }

    private int pageSet(int most) {
        if (random.nextInt(100) < wildness) return (int) WILD[below(WILD.length)];
        int set = 0;
        for (int i = below(most + 1); i > 0; i--) set |= 1 << near(m.count(1));
        return set;
    }

    private long pieceSet() {
        if (random.nextInt(100) < wildness) return WILD[below(WILD.length)];
        long set = 0;
        for (int k = 0; k < kinds; k++) set |= random.nextInt(3) > 0 ? 1L << k * 11 : 0;
        return set;
    }

    private void go() {
        int pages = random.nextInt(13);
        for (int p = 0; p < pages; p++) {
            int door = near(6);
            same("page(" + door + ")", x.page(door), m.page(door));
        }
        // A plan is asked for seldom: the plain model tries every one.
        while (calls < CALLS) step(random.nextInt(100));
    }

    private void step(int dice) {
        if (dice < 15) {
            int n = near(longest + 1);
            same("go(" + n + ")", x.go(n), m.go(n));
        } else if (dice < 38) {
            look();
        } else if (dice < 41) {
            int l = aLook();
            same("take(" + l + ")", x.take(l), m.take(l));
        } else if (dice < 46) {
            texts();
        } else if (dice < 58) {
            askLooks();
        } else if (dice < 72) {
            askHours();
        } else if (dice < 84) {
            askWholes();
        } else if (dice < 94) {
            askPages();
        } else {
            askHouses();
        }
    }

    private void look() {
        int p = aPage(), kind = random.nextInt(4) > 0 ? 0 : near(3);
        long set = pieceSet();
        int date = random.nextInt(3) > 0 ? -1 : near(m.count(0) + 1);
        same("look(" + p + ", " + kind + ", " + set + ", " + date + ")", x.look(p, kind, set, date),
            m.look(p, kind, set, date));
    }

    private void texts() {
        StringBuilder text = new StringBuilder();
        boolean rights = random.nextBoolean();
        for (int i = random.nextInt(12); i >= 0; i--) text.append(rights ? rightsClause() : programClause());
        for (int i = random.nextInt(8) - 5; i > 0; i--) {
            int at = below(text.length() + 1);
            if (random.nextBoolean()) text.insert(at, WORDS[below(WORDS.length)]);
            else if (at < text.length()) text.setCharAt(at, (char) (random.nextBoolean() ? below(256) : '0' + below(10)));
        }
        for (int i = 0; i < text.length(); ) {
            int n = Math.min(1 + below(8), text.length() - i);
            long bytes = random.nextLong();
            for (int k = 0; k < n; k++) bytes = bytes << 8 | text.charAt(i + k);
            same("feed of \"" + text + "\"", x.feed(n, bytes), m.feed(n, bytes));
            i += n;
        }
        int n = near(10);
        if (random.nextInt(5) == 0) same("feed(" + n + ", 59)", x.feed(n, 59), m.feed(n, 59));
        int p = aPage();
        if (rights) same("read() of \"" + text + "\"", x.read(), m.read());
        else same("program(" + p + ") of \"" + text + "\"", x.program(p), m.program(p));
        same("fault() of \"" + text + "\"", x.fault(), m.fault());
        for (int what = 0; what < 9 && rights; what++) same("right(" + what + ")", x.right(what), m.right(what));
    }

    private String number(int most) {
        int n = random.nextInt(25) == 0 ? most + 1 : random.nextInt(most + 1);
        return random.nextInt(10) == 0 ? "0" + n : "" + n;
    }

    private String rightsClause() {
        switch (random.nextInt(6)) {
            case 0:
                return random.nextBoolean() ? "never " + number(5) + ";" : "";
            case 1:
            case 2:
                return "let " + number(5) + " each " + number(random.nextBoolean() ? 4 : 99) + ";";
            case 3:
                return "night " + number(12) + " ; ";
            case 4:
                return "patience" + number(random.nextBoolean() ? 30 : 999) + ";";
            default:
                StringBuilder clothes = new StringBuilder("clothes " + number(5) + number(9));
                for (int i = random.nextInt(4); i > 0; i--) clothes.append(" , ").append(11 * below(kinds));
                return clothes.append(";").toString();
        }
    }

    private String programClause() {
        switch (random.nextInt(8)) {
            case 0:
                return " ever " + number(999) + "by" + number(999) + ";";
            case 1:
            case 2:
            case 3:
                return "row " + number(9) + " by " + number(9) + " times " + number(random.nextBoolean() ? 9 : 120) + ";";
            default:
                return "link " + number(999) + ";";
        }
    }

    private void askLooks() {
        int l = aLook(), k = aLook(), what = near(6), p = aPage(), i = near(8);
        int of = near(11);
        same("told(" + l + ", " + what + ")", x.told(l, what), m.told(l, what));
        same("pieces(" + l + ")", x.pieces(l), m.pieces(l));
        same("view(" + p + ", " + i + ")", x.view(p, i), m.view(p, i));
        same("view(" + p + ", -1)", x.view(p, -1), m.view(p, -1));
        same("count(" + of + ")", x.count(of), m.count(of));
        same("alike(" + l + ", " + k + ")", x.alike(l, k), m.alike(l, k));
        same("likeness(" + l + ", " + k + ")", x.likeness(l, k), m.likeness(l, k));
    }

    private void askHours() {
        int p = aPage(), l = aLook(), t = hour(), a = hour(), b = hour(), what = near(3);
        same("sure(" + p + ", " + t + ")", x.sure(p, t), m.sure(p, t));
        same("state(" + l + ", " + t + ")", x.state(l, t), m.state(l, t));
        same("shown(" + p + ", " + t + ", " + what + ")", x.shown(p, t, what), m.shown(p, t, what));
        if (a > b && random.nextInt(4) > 0) {
            int c = a;
            a = b;
            b = c;
        }
        if (b - a < 500 || random.nextInt(20) == 0) {
            same("hours(" + l + ", " + a + ", " + b + ", " + what + ")", x.hours(l, a, b, what), m.hours(l, a, b, what));
        }
        int set = pageSet(3);
        same("bothWays(" + set + ", " + a + ", " + b + ")", x.bothWays(set, a, b), m.bothWays(set, a, b));
    }

    private void askWholes() {
        int l = aLook();
        same("part(" + l + ")", x.part(l), m.part(l));
        if (random.nextInt(30) == 0) same("wipe()", x.wipe(), m.wipe());
        int what = near(6);
        if (m.count(0) < 500 || random.nextInt(20) == 0) same("whole(" + what + ")", x.whole(what), m.whole(what));
    }

    private void askPages() {
        int p = aPage(), purse = near(random.nextBoolean() ? 12 : 201), i = near(12), piece = near(60), what = near(2);
        if (random.nextInt(4) > 0) piece = 11 * below(kinds);
        same("rate(" + p + ")", x.rate(p), m.rate(p));
        same("links(" + p + ", " + purse + ", " + i + ")", x.links(p, purse, i), m.links(p, purse, i));
        same("links(" + p + ", " + purse + ", -1)", x.links(p, purse, -1), m.links(p, purse, -1));
        same("more(" + p + ", " + purse + ")", x.more(p, purse), m.more(p, purse));
        same("moved(" + p + ")", x.moved(p), m.moved(p));
        same("since(" + p + ", " + piece + ", " + what + ")", x.since(p, piece, what), m.since(p, piece, what));
        same("first(" + piece + ")", x.first(piece), m.first(piece));
        same("nowhere()", x.nowhere(), m.nowhere());
        if (random.nextInt(8) == 0) {
            int set = pageSet(m.right(6) < 7 ? 8 : 4), knock = near(12);
            same("plan(" + set + ", " + knock + ")", x.plan(set, knock), m.plan(set, knock));
            same("plan(" + set + ", -1)", x.plan(set, -1), m.plan(set, -1));
        }
    }

    private void askHouses() {
        int house = near(3), other = near(3), piece = random.nextInt(4) > 0 ? 11 * below(kinds) : near(60);
        same("lose(" + house + ", " + piece + ")", x.lose(house, piece), m.lose(house, piece));
        same("words(" + house + ", " + other + ")", x.words(house, other), m.words(house, other));
        if (random.nextInt(3) == 0) same("mend()", x.mend(), m.mend());
        for (int what = 7; what < 11; what++) same("count(" + what + ")", x.count(what), m.count(what));
    }
}
