/** What tests of the class share: its constants by short names, and objects brought to where a test begins. */
abstract class Scene {
    static final int NONE = KeptPages.NONE, UNKNOWN = KeptPages.UNKNOWN, OUTSIDE = KeptPages.OUTSIDE;
    static final int NOT = KeptPages.NOT, FULL = KeptPages.FULL;
    static final int LEAST = Integer.MIN_VALUE, MOST = Integer.MAX_VALUE;

    /** An object with a page behind each of the doors. */
    static KeptPages pages(int... doors) {
        KeptPages x = new KeptPages();
        for (int door : doors) {
            x.page(door);
        }
        return x;
    }

    /** Goes on to the hour t and sees the page. */
    static int seen(KeptPages x, int t, int p, long set) {
        return dated(x, t, p, set, NONE);
    }

    static int dated(KeptPages x, int t, int p, long set, int date) {
        goTo(x, t);
        return x.look(p, 0, set, date);
    }

    static int gone(KeptPages x, int t, int p) {
        goTo(x, t);
        return x.look(p, 1, 0, NONE);
    }

    static int barred(KeptPages x, int t, int p) {
        goTo(x, t);
        return x.look(p, 2, 0, NONE);
    }

    static void goTo(KeptPages x, int t) {
        int now = x.count(0);
        while (now >= 0 && now < t) {
            now = x.go(Math.min(500, t - now));
        }
    }
}
