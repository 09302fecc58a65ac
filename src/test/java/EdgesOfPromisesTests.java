import java.io.IOException;

/** The promises, sentence by sentence: what each call answers at both sides of the boundaries that it names. */
public final class EdgesOfPromisesTests extends Scene {
    private static final long ALL = (1L << 60) - 1;
    /** Numbers that are no page, look, house or hour of a small object. */
    private static final int[] WILD = {LEAST, -1001, -2, -1, 512, 3001, MOST};
    private static final Sentences doc = new Sentences();

    private static void due(String call, long got, long want) {
        doc.due(call, got, want);
    }

    public static void main(String[] args) throws IOException {
        face();
        pagesAndLooks();
        rights();
        whatItWas();
        wholes();
        ratesAndNights();
        linksAndLikeness();
        houses();
        shown();
        notPromised();
        doc.end("EdgesOfPromisesTests");
    }

    private static void promise(int number) {
        doc.section("## Promise " + number + ": ");
    }

    private static void face() {
        promise(1);
        doc.says("No PAGES; hour 0; RIGHTS as at first.");
        due("NONE", KeptPages.NONE, -1);
        due("UNKNOWN", KeptPages.UNKNOWN, -1001);
        due("OUTSIDE", KeptPages.OUTSIDE, -1002);
        due("NOT", KeptPages.NOT, -1003);
        due("FULL", KeptPages.FULL, -1004);
        KeptPages x = new KeptPages();
        due("no page", x.view(0, NONE), UNKNOWN);
        due("no look", x.told(0, 0), UNKNOWN);
        due("no bits", x.plan(1, NONE), UNKNOWN);
        due("the empty set", x.plan(0, NONE), 0);
        due("the empty set both ways", x.bothWays(0, 0, 0), 0);
        due("hour 0", x.go(0), 0);
        due("no whole", x.wipe(), 0);
        due("nothing to mend", x.mend(), 0);
        due("nobody first", x.first(59), 0);
        int[] atFirst = {1, 1, 1, 1, 1, 1, 8, 24, 0};
        for (int what = 0; what <= 8; what++) {
            due("right(" + what + ")", x.right(what), atFirst[what]);
        }
        for (int what = 0; what <= 10; what++) {
            due("count(" + what + ")", x.count(what), 0);
        }
        due("a second object is another", new KeptPages().go(7) + new KeptPages().count(0), 7);
    }

    // ---- pages, looks

    private static void pagesAndLooks() {
        go();
        page();
        look();
        take();
        told();
        pieces();
        view();
        count();
    }

    private static void go() {
        promise(2);
        doc.says("NOW goes on by n hours (0 .. 500): NOW.");
        KeptPages x = new KeptPages();
        due("0", x.go(0), 0);
        due("1", x.go(1), 1);
        due("499", x.go(499), 500);
        due("500", x.go(500), 1000);
        doc.says("OUTSIDE; NOT: it would be above 3000.");
        due("501", x.go(501), OUTSIDE);
        due("-1", x.go(-1), OUTSIDE);
        due("least", x.go(LEAST), OUTSIDE);
        due("most", x.go(MOST), OUTSIDE);
        due("to 2501", x.go(500) + x.go(500) + x.go(500) + x.go(1), 1500 + 2000 + 2500 + 2501);
        due("500 to 3001", x.go(500), NOT);
        due("now stays", x.count(0), 2501);
        due("499 to 3000", x.go(499), 3000);
        due("1 at 3000", x.go(1), NOT);
        due("0 at 3000", x.go(0), 3000);
        due("501 at 3000", x.go(501), OUTSIDE);
        due("-1 at 3000", x.go(-1), OUTSIDE);
    }

    private static void page() {
        promise(3);
        doc.says("A PAGE behind a DOOR: its number.");
        KeptPages x = new KeptPages();
        for (int p = 0; p < 12; p++) {
            due("page " + p, x.page(p % 6), p);
        }
        doc.says("UNKNOWN, FULL.");
        due("the 13th", x.page(5), FULL);
        due("door 6", x.page(6), UNKNOWN);
        for (int door : WILD) {
            due("door " + door, x.page(door), UNKNOWN);
        }
        due("12 pages", x.count(1), 12);
    }

    private static void look() {
        promise(4);
        doc.says("A LOOK: its number.");
        KeptPages x = pages(0, 1, 2);
        x.go(3);
        due("the first", x.look(2, 0, 0, NONE), 0);
        due("the second", x.look(1, 1, 0, NONE), 1);
        due("the third", x.look(0, 2, 0, NONE), 2);
        doc.says("UNKNOWN, OUTSIDE (KIND; of SEEN: the SET, bits of other PIECES; DATE), NOT: it is not let; FULL.");
        x.go(1);
        due("page 3", x.look(3, 0, 0, NONE), UNKNOWN);
        for (int wild : WILD) {
            due("page " + wild, x.look(wild, 0, 0, NONE), UNKNOWN);
            due("kind " + wild, x.look(0, wild, 0, NONE), OUTSIDE);
            if (wild != NONE) {
                due("date " + wild, x.look(0, 0, 0, wild), OUTSIDE);
            }
        }
        due("kind 3", x.look(0, 3, 0, NONE), OUTSIDE);
        due("bit 60", x.look(0, 0, 1L << 60, NONE), OUTSIDE);
        due("bit 63", x.look(0, 0, 1L << 63, NONE), OUTSIDE);
        due("all bits", x.look(0, 0, -1L, NONE), OUTSIDE);
        due("date 5 at 4", x.look(0, 0, 0, 5), OUTSIDE);
        // Of GONE and BARRED neither the SET nor the DATE is looked at.
        due("gone, all bits and a date to come", x.look(0, 1, -1L, 5), 3);
        due("barred, all bits and a date to come", x.look(1, 2, -1L, 5), 4);
        due("gone has no date", x.told(3, 3), NONE);
        due("gone has no pieces", x.pieces(3), 0);
        due("barred has no pieces", x.pieces(4), 0);
        due("no house has any", x.count(7), 0);
        due("not let", x.look(0, 0, ALL, 4), NOT);
        due("let", x.look(2, 0, ALL, 4), 5);
        KeptPages full = Twins.full();
        due("the 101st", full.look(4, 0, 1, NONE), FULL);
        due("the 101st, gone", full.look(5, 1, 0, NONE), FULL);
    }

    private static void take() {
        promise(5);
        doc.says("A LOOK is TAKEN OUT: 1.");
        KeptPages x = pages(0);
        seen(x, 0, 0, 1);
        gone(x, 1, 0);
        barred(x, 2, 0);
        for (int l = 0; l < 3; l++) {
            due("look " + l, x.take(l), 1);
            due("it is out", x.told(l, 5), 1);
            due("so many holes", x.count(3), l + 1);
        }
        due("no view", x.view(0, NONE), 0);
        doc.says("UNKNOWN; NOT: it is.");
        for (int l = 0; l < 3; l++) {
            due("again " + l, x.take(l), NOT);
        }
        due("look 3", x.take(3), UNKNOWN);
        for (int l : WILD) {
            due("look " + l, x.take(l), UNKNOWN);
        }
        due("three holes", x.count(3), 3);
    }

    private static void told() {
        promise(6);
        doc.says("Of a LOOK: what = 0 PAGE, 1 hour, 2 KIND, 3 DATE (NONE), 4 how many PIECES, 5 whether it is TAKEN OUT (1, 0; "
            + "of a HOLE 2 to 4 are NONE).");
        KeptPages x = pages(0, 1);
        dated(x, 7, 1, ALL, 0);
        seen(x, 8, 1, 0);
        gone(x, 9, 1);
        barred(x, 10, 1);
        int[][] want = {{1, 7, 0, 0, 60, 0}, {1, 8, 0, NONE, 0, 0}, {1, 9, 1, NONE, 0, 0}, {1, 10, 2, NONE, 0, 0}};
        int[][] holes = {{1, 7}, {1, 8}, {1, 9}, {1, 10}};
        for (int l = 0; l < 4; l++) {
            for (int what = 0; what <= 5; what++) {
                due("told(" + l + ", " + what + ")", x.told(l, what), want[l][what]);
            }
            x.take(l);
            for (int what = 0; what <= 5; what++) {
                due("of the hole, " + what, x.told(l, what), what < 2 ? holes[l][what] : what < 5 ? NONE : 1);
            }
        }
        doc.says("UNKNOWN, OUTSIDE.");
        due("look 4", x.told(4, 0), UNKNOWN);
        due("what 6", x.told(0, 6), OUTSIDE);
        for (int wild : WILD) {
            due("look " + wild, x.told(wild, 0), UNKNOWN);
            due("what " + wild, x.told(0, wild), OUTSIDE);
        }
    }

    private static void pieces() {
        promise(7);
        doc.says("PIECES of a LOOK (0: none, also of a HOLE).");
        KeptPages x = pages(0);
        seen(x, 0, 0, ALL);
        seen(x, 1, 0, 0);
        gone(x, 2, 0);
        barred(x, 3, 0);
        due("all", x.pieces(0), ALL);
        due("none", x.pieces(1), 0);
        due("of a gone one", x.pieces(2), 0);
        due("of a barred one", x.pieces(3), 0);
        x.take(0);
        due("of a hole", x.pieces(0), 0);
        doc.says("UNKNOWN.");
        due("look 4", x.pieces(4), UNKNOWN);
        for (int l : WILD) {
            due("look " + l, x.pieces(l), UNKNOWN);
        }
    }

    private static void view() {
        promise(8);
        doc.says("The i-th VIEW of a PAGE; i = NONE how many; NONE: there is none such.");
        KeptPages x = pages(0, 1);
        due("how many of none", x.view(1, NONE), 0);
        due("the first of none", x.view(1, 0), NONE);
        seen(x, 0, 0, 1);
        gone(x, 1, 0);
        due("how many", x.view(0, NONE), 2);
        due("0", x.view(0, 0), 0);
        due("1", x.view(0, 1), 1);
        due("2", x.view(0, 2), NONE);
        due("-2", x.view(0, -2), NONE);
        due("least", x.view(0, LEAST), NONE);
        due("most", x.view(0, MOST), NONE);
        doc.says("UNKNOWN.");
        due("page 2", x.view(2, NONE), UNKNOWN);
        for (int p : WILD) {
            due("page " + p, x.view(p, 0), UNKNOWN);
        }
    }

    private static void count() {
        promise(9);
        doc.says("How many: 0 NOW, 1 PAGES, 2 LOOKS, 3 HOLES, 4 VIEWS, 5 places of THE WHOLE, 6 bytes of THE TEXT, 7 PIECES in "
            + "HOUSE 0, 8 in 1, 9 in 2, 10 PIECES of VIEWS that no HOUSE has.");
        int[] rich = {10, 5, 8, 1, 6, 2, 8, 4, 4, 5, 0};
        int[] full = {16, 12, 100, 0, 100, 8, 200, 60, 60, 60, 0};
        KeptPages x = Twins.rich(), y = Twins.full();
        for (int what = 0; what <= 10; what++) {
            due("count(" + what + ")", x.count(what), rich[what]);
            due("full, count(" + what + ")", y.count(what), full[what]);
        }
        for (int house = 0; house < 3; house++) {
            for (int piece = 0; piece < 60; piece++) {
                y.lose(house, piece);
            }
        }
        due("all are lost", y.count(10), 60);
        due("house 2 is empty", y.count(9), 0);
        doc.says("OUTSIDE.");
        due("11", x.count(11), OUTSIDE);
        for (int what : WILD) {
            due("" + what, x.count(what), OUTSIDE);
        }
    }

    // ---- rights

    private static void rights() {
        feed();
        read();
        program();
        fault();
        right();
    }

    private static void feed() {
        promise(10);
        doc.says("Up to eight bytes (n 1 .. 8) of a long, the highest of these first, come behind THE TEXT (200 at most): how many "
            + "it has.");
        KeptPages x = new KeptPages();
        // Eight bytes at once, then one by one with wild bytes above the one that counts.
        due("eight", x.feed(8, Checks.bytes("patience")), 8);
        String left = " 908;";
        for (int i = 0; i < left.length(); i++) {
            due("one", x.feed(1, -256L | left.charAt(i)), 9 + i);
        }
        due("they are read", x.read(), 1);
        due("in their order", x.right(7), 908);
        for (int n = 1; n <= 8; n++) {
            KeptPages y = new KeptPages();
            due(n + " bytes", y.feed(n, 0x2020202020202020L), n);
            due("and " + n + " bytes", y.feed(n, -1L), 2 * n);
            due("the first is wrong", y.read(), -11);
            due("at " + n, y.fault(), n);
        }
        due("a sign above 127", x.feed(1, 200), 1);
        due("cannot stand", x.read(), -11);
        doc.says("OUTSIDE, FULL.");
        due("0", x.feed(0, 0), OUTSIDE);
        due("9", x.feed(9, 0), OUTSIDE);
        for (int n : WILD) {
            due("" + n, x.feed(n, 0), OUTSIDE);
        }
        Checks.feed(x, " ".repeat(193));
        due("eight behind 193", x.feed(8, 0), FULL);
        due("193 still", x.count(6), 193);
        due("seven behind 193", x.feed(7, 0x20202020202020L), 200);
        for (int n = 1; n <= 8; n++) {
            due(n + " behind 200", x.feed(n, 0), FULL);
        }
        due("no byte of those came", x.read(), 0);
    }

    private static void read() {
        promise(11);
        doc.says("THE TEXT (it is empty then) becomes RIGHTS: how many clauses; -10 less the number of its FAULT (RIGHTS are as "
            + "they were).");
        KeptPages x = new KeptPages();
        due("empty", x.read(), 0);
        due("one", Checks.rights(x, "night 3;"), 1);
        due("empty then", x.count(6), 0);
        String[] faulty = {"x", "night 13;", "night 4;night 5;", "clothes 1,1;"};
        for (int fault = 1; fault <= 4; fault++) {
            due("fault " + fault, Checks.rights(x, faulty[fault - 1]), -10 - fault);
            due("empty then too", x.count(6), 0);
            due("night as it was", x.right(6), 3);
            due("no clothes", x.right(8), 0);
        }
        // The most clauses that 200 bytes can hold: six never, six let, night, patience, clothes.
        StringBuilder most = new StringBuilder();
        for (int d = 0; d < 6; d++) {
            most.append("never").append(d).append(";let").append(d).append("each9;");
        }
        most.append("night9;patience9;clothes9;");
        due("bytes", most.length(), 128);
        due("15 clauses", Checks.rights(x, most.toString()), 15);
        due("after a fault the next is read anew", Checks.rights(x, "night 2;"), 1);
        due("night 2", x.right(6), 2);
    }

    private static void program() {
        promise(12);
        doc.says("THE TEXT (it is empty then) becomes the PROGRAM of a PAGE: how many clauses; -10 less the number of its FAULT "
            + "(it is as it was).");
        KeptPages x = pages(0, 1);
        due("empty", x.program(0), 0);
        due("two", Checks.program(x, 0, "link 5;link 6;"), 2);
        due("empty then", x.count(6), 0);
        due("page 1 has none", x.links(1, 200, NONE), 0);
        int[] faults = {1, 2, 5};
        String[] faulty = {"link", "link 1000;", "link 1;".repeat(9)};
        for (int i = 0; i < 3; i++) {
            due("fault " + faults[i], Checks.program(x, 0, faulty[i]), -10 - faults[i]);
            due("empty then too", x.count(6), 0);
            due("two as before", x.links(0, 200, NONE), 2);
            due("link 6 as before", x.links(0, 200, 1), 6);
        }
        due("eight", Checks.program(x, 1, "link 1;".repeat(8)), 8);
        due("page 0 as before", x.links(0, 200, NONE), 2);
        due("rights do not change", x.right(6), 8);
        doc.says("UNKNOWN, NOT: above 120 bytes (THE TEXT stays, of both).");
        Checks.feed(x, "link 9;" + " ".repeat(113));
        due("page 2", x.program(2), UNKNOWN);
        for (int p : WILD) {
            due("page " + p, x.program(p), UNKNOWN);
        }
        due("120 bytes stay", x.count(6), 120);
        due("one more", x.feed(1, ' '), 121);
        due("121 bytes", x.program(0), NOT);
        due("121 bytes, page 2", x.program(2), UNKNOWN);
        due("121 bytes stay", x.count(6), 121);
        due("as it was", x.links(0, 200, NONE), 2);
        due("read takes them", x.read(), -11);
        due("120 bytes", Checks.program(x, 0, "link 9;" + " ".repeat(113)), 1);
        due("link 9", x.links(0, 200, 0), 9);
    }

    private static void fault() {
        promise(13);
        doc.says("The byte of the FAULT of the latest read() or program() that was not refused otherwise; NONE.");
        KeptPages x = pages(0);
        due("at first", x.fault(), NONE);
        x.read();
        due("of an empty text", x.fault(), NONE);
        Checks.rights(x, "x");
        due("byte 0", x.fault(), 0);
        Checks.rights(x, "night" + " ".repeat(195));
        due("byte 200", x.fault(), 200);
        Checks.feed(x, " ".repeat(121));
        x.program(0);
        due("refused: NOT", x.fault(), 200);
        x.program(1);
        due("refused: UNKNOWN", x.fault(), 200);
        x.feed(9, 0);
        due("another call", x.fault(), 200);
        x.read();
        due("none by read", x.fault(), NONE);
        Checks.program(x, 0, "link" + " ".repeat(116));
        due("byte 120", x.fault(), 120);
        x.program(0);
        due("none by program", x.fault(), NONE);
    }

    private static void right() {
        promise(14);
        doc.says("Of RIGHTS: what = 0 to 5 let of DOORS (0: never), 6 night, 7 patience, 8 how many CLOTHES.");
        KeptPages x = new KeptPages();
        Checks.rights(x, "let 0 each 99;let 1 each 1;never 2;never 3;let 3 each 4;let 5 each 6;night 12;patience 999;clothes 59;");
        int[] want = {99, 1, 0, 0, 1, 6, 12, 999, 1};
        for (int what = 0; what <= 8; what++) {
            due("right(" + what + ")", x.right(what), want[what]);
        }
        doc.says("OUTSIDE.");
        due("9", x.right(9), OUTSIDE);
        for (int what : WILD) {
            due("" + what, x.right(what), OUTSIDE);
        }
    }

    // ---- what it was

    private static void whatItWas() {
        alike();
        sure();
        state();
        hours();
    }

    /** Looks 0 and 1 are seen, 2 is gone, 3 barred, 4 a hole; NOW is 10. */
    private static KeptPages kinds() {
        KeptPages x = pages(0, 1);
        seen(x, 2, 0, 1);
        seen(x, 4, 0, 1);
        gone(x, 6, 0);
        barred(x, 8, 0);
        seen(x, 10, 0, 1);
        x.take(4);
        return x;
    }

    private static void alike() {
        promise(15);
        doc.says("Whether two VIEWS are ALIKE: 1, 0.");
        KeptPages x = kinds();
        due("two", x.alike(0, 1), 1);
        due("one twice", x.alike(2, 2), 1);
        due("seen and gone", x.alike(0, 2), 0);
        doc.says("UNKNOWN (LOOKS that are none, too).");
        for (int l : new int[] {3, 4, 5, LEAST, -1, MOST}) {
            due(l + " second", x.alike(0, l), UNKNOWN);
            due(l + " first", x.alike(l, 0), UNKNOWN);
            due(l + " both", x.alike(l, l), UNKNOWN);
        }
    }

    private static void sure() {
        promise(16);
        doc.says("The VIEW as in which a PAGE is SURE at t; NONE: none CLAIMS it; -2: they QUARREL.");
        KeptPages x = kinds();
        int[] want = {NONE, NONE, 0, 0, 1, NONE, 2, NONE, NONE, NONE, NONE};
        for (int t = 0; t <= 10; t++) {
            due("at " + t, x.sure(0, t), want[t]);
            due("no views, at " + t, x.sure(1, t), NONE);
        }
        dated(x, 11, 0, 2, 6);
        due("a quarrel", x.sure(0, 6), -2);
        due("behind it", x.sure(0, 7), 5);
        due("ahead of it", x.sure(0, 5), NONE);
        doc.says("UNKNOWN, OUTSIDE.");
        due("page 2", x.sure(2, 0), UNKNOWN);
        due("at 12", x.sure(0, 12), OUTSIDE);
        for (int wild : WILD) {
            due("page " + wild, x.sure(wild, 0), UNKNOWN);
            due("at " + wild, x.sure(0, wild), OUTSIDE);
        }
    }

    private static void state() {
        promise(17);
        doc.says("STATE of its PAGE at t as in a VIEW.");
        KeptPages x = kinds();
        int[] seen = {1, 1, 2, 2, 2, 1, 0, 0, 0, 0, 0};
        int[] gone = {0, 0, 0, 0, 0, 1, 2, 1, 1, 1, 1};
        for (int t = 0; t <= 10; t++) {
            due("as in 0 at " + t, x.state(0, t), seen[t]);
            due("as in 1 at " + t, x.state(1, t), seen[t]);
            due("as in 2 at " + t, x.state(2, t), gone[t]);
        }
        doc.says("UNKNOWN, OUTSIDE.");
        for (int l : new int[] {3, 4, 5, LEAST, -1, MOST}) {
            due("look " + l, x.state(l, 0), UNKNOWN);
            due("look " + l + " at -1", x.state(l, -1), UNKNOWN);
        }
        due("at 11", x.state(0, 11), OUTSIDE);
        for (int t : WILD) {
            due("at " + t, x.state(0, t), OUTSIDE);
        }
    }

    private static void hours() {
        promise(18);
        doc.says("In how many hours from a to b a PAGE's STATE as in a VIEW is what (0 .. 2).");
        KeptPages x = kinds();
        int[] all = {5, 3, 3};
        for (int what = 0; what <= 2; what++) {
            due("all hours, " + what, x.hours(0, 0, 10, what), all[what]);
        }
        due("one hour", x.hours(0, 4, 4, 2), 1);
        due("the hour behind", x.hours(0, 5, 5, 2), 0);
        due("just these", x.hours(0, 2, 4, 2), 3);
        due("one less", x.hours(0, 3, 4, 2), 2);
        due("one less at the end", x.hours(0, 2, 3, 2), 2);
        due("at 0", x.hours(0, 0, 0, 1), 1);
        due("at now", x.hours(0, 10, 10, 0), 1);
        doc.says("UNKNOWN, OUTSIDE (a, b 0 .. NOW, b not below a).");
        for (int l : new int[] {3, 4, 5, LEAST, -1, MOST}) {
            due("look " + l, x.hours(l, 0, 0, 0), UNKNOWN);
        }
        due("b 11", x.hours(0, 0, 11, 0), OUTSIDE);
        due("a and b 11", x.hours(0, 11, 11, 0), OUTSIDE);
        due("a -1", x.hours(0, -1, 5, 0), OUTSIDE);
        due("a and b -1", x.hours(0, -1, -1, 0), OUTSIDE);
        due("b one below a", x.hours(0, 5, 4, 0), OUTSIDE);
        due("b far below a", x.hours(0, 10, 0, 0), OUTSIDE);
        due("what 3", x.hours(0, 0, 0, 3), OUTSIDE);
        for (int wild : WILD) {
            due("a " + wild, x.hours(0, wild, 5, 0), OUTSIDE);
            due("b " + wild, x.hours(0, 5, wild, 0), OUTSIDE);
            due("what " + wild, x.hours(0, 0, 5, wild), OUTSIDE);
        }
    }

    // ---- wholes

    private static void wholes() {
        part();
        wipe();
        whole();
        bothWays();
    }

    private static void part() {
        promise(19);
        doc.says("A VIEW more in THE WHOLE: how many.");
        KeptPages x = pages(0, 1, 2, 3, 4, 5, 0, 1, 2);
        for (int p = 0; p < 9; p++) {
            seen(x, p, p, 1);
        }
        for (int l = 0; l < 8; l++) {
            due("look " + l, x.part(l), l + 1);
        }
        doc.says("UNKNOWN, NOT: it is not SEEN, or its PAGE is there; FULL.");
        due("the ninth", x.part(8), FULL);
        due("its page is there", x.part(0), NOT);
        due("the last one's page is there", x.part(7), NOT);
        due("look 9", x.part(9), UNKNOWN);
        for (int l : WILD) {
            due("look " + l, x.part(l), UNKNOWN);
        }
        due("eight places", x.count(5), 8);
        KeptPages y = kinds();
        due("gone", y.part(2), NOT);
        due("barred", y.part(3), UNKNOWN);
        due("a hole", y.part(4), UNKNOWN);
        due("seen", y.part(1), 1);
        due("another of its page", y.part(0), NOT);
        doc.says("(VIEWS that become HOLES go out of it.)");
        x.take(0);
        due("seven", x.count(5), 7);
        due("the ninth has room", x.part(8), 8);
        x.take(8);
        due("seven again", x.count(5), 7);
        for (int l = 1; l < 8; l++) {
            x.take(l);
        }
        due("none", x.count(5), 0);
        due("it is empty", x.whole(0), NOT);
        y.take(0);
        due("another's hole changes nothing", y.count(5), 1);
    }

    private static void wipe() {
        promise(20);
        doc.says("THE WHOLE is empty: how many it had.");
        KeptPages x = Twins.full();
        due("eight", x.wipe(), 8);
        due("none", x.wipe(), 0);
        due("no places", x.count(5), 0);
        due("it is empty", x.whole(0), NOT);
        due("the views are there", x.part(0), 1);
        due("one", x.wipe(), 1);
    }

    private static void whole() {
        promise(21);
        doc.says("THE WHOLE: what = 0 the first hour when it STOOD (NONE), 1 how many hours, 2 the first one when it COULD (NONE), 3 "
            + "THE FEWEST to leave (the SET), 4 NEAREST, 5 how many are 2 there.");
        KeptPages x = pages(0, 1);
        dated(x, 4, 0, 1, 2);
        dated(x, 6, 1, 1, 4);
        x.part(0);
        x.part(1);
        int[] once = {4, 1, 0, 0, 4, 2};
        for (int what = 0; what <= 5; what++) {
            due("whole(" + what + ")", x.whole(what), once[what]);
        }
        x.go(3);
        for (int what = 0; what <= 5; what++) {
            due("later, whole(" + what + ")", x.whole(what), once[what]);
        }
        // Page 1 is a quarrel at 4 to 6 and sure as another ahead of that, so page 0 stands alone, from 2 on.
        dated(x, 9, 1, 2, 0);
        int[] never = {NONE, 0, 4, 2, 4, 1};
        for (int what = 0; what <= 5; what++) {
            due("with a quarrel, whole(" + what + ")", x.whole(what), never[what]);
        }
        seen(x, 10, 0, 2);
        dated(x, 12, 0, 3, 0);
        int[] none = {NONE, 0, 4, 3, 4, 0};
        for (int what = 0; what <= 5; what++) {
            due("with two quarrels, whole(" + what + ")", x.whole(what), none[what]);
        }
        doc.says("OUTSIDE, NOT: it is empty.");
        due("6", x.whole(6), OUTSIDE);
        x.wipe();
        for (int what = 0; what <= 5; what++) {
            due("empty, " + what, x.whole(what), NOT);
        }
        due("6 of an empty one", x.whole(6), OUTSIDE);
        for (int what : WILD) {
            due("" + what, x.whole(what), OUTSIDE);
        }
    }

    private static void bothWays() {
        promise(22);
        doc.says("BOTH WAYS; NONE.");
        KeptPages x = kinds();
        due("2 to 4", x.bothWays(1, 2, 4), 2);
        due("2 to 5", x.bothWays(1, 2, 5), 2);
        due("2 to 6", x.bothWays(1, 2, 6), NONE);
        due("3 to 4", x.bothWays(1, 3, 4), NONE);
        due("of none", x.bothWays(0, 3, 4), 3);
        due("with page 1", x.bothWays(3, 2, 4), NONE);
        due("over the barred one and the hole", x.bothWays(1, 7, 10), NONE);
        doc.says("UNKNOWN (bits), OUTSIDE.");
        for (int bit = 2; bit < 32; bit++) {
            due("bit " + bit, x.bothWays(1 << bit, 0, 1), UNKNOWN);
            due("bit " + bit + " and page 0", x.bothWays(1 << bit | 1, 2, 1), UNKNOWN);
        }
        due("b 11", x.bothWays(1, 0, 11), OUTSIDE);
        due("b 10", x.bothWays(0, 0, 10), 0);
        due("a -1", x.bothWays(1, -1, 5), OUTSIDE);
        due("b below a", x.bothWays(1, 5, 4), OUTSIDE);
        due("of none, b below a", x.bothWays(0, 5, 4), OUTSIDE);
        for (int wild : WILD) {
            due("a " + wild, x.bothWays(1, wild, 5), OUTSIDE);
            due("b " + wild, x.bothWays(1, 5, wild), OUTSIDE);
        }
    }

    // ---- rates, nights

    private static void ratesAndNights() {
        promise(23);
        doc.says("RATE.");
        KeptPages x = kinds();
        due("one in four", x.rate(0), 250);
        due("no views", x.rate(1), NONE);
        doc.says("UNKNOWN.");
        due("page 2", x.rate(2), UNKNOWN);
        for (int p : WILD) {
            due("page " + p, x.rate(p), UNKNOWN);
        }
        plan();
    }

    private static void plan() {
        promise(24);
        doc.says("THE BEST PLAN of a SET: i = NONE its WORTH, else the PAGE in knock i; NONE.");
        KeptPages x = kinds();
        due("the worth of both", x.plan(3, NONE), 250 * 4 + 1000);
        due("knock 0", x.plan(3, 0), 0);
        due("knock 1", x.plan(3, 1), 1);
        for (int i = 2; i <= 11; i++) {
            due("knock " + i, x.plan(3, i), NONE);
        }
        due("of none", x.plan(0, NONE), 0);
        due("of none, knock 0", x.plan(0, 0), NONE);
        due("of none, knock 11", x.plan(0, 11), NONE);
        doc.says("UNKNOWN (bits), OUTSIDE (more than 7; i below NONE, above 11).");
        for (int bit = 2; bit < 32; bit++) {
            due("bit " + bit, x.plan(1 << bit, NONE), UNKNOWN);
        }
        due("i -2", x.plan(1, -2), OUTSIDE);
        due("i 12", x.plan(1, 12), OUTSIDE);
        due("i least", x.plan(1, LEAST), OUTSIDE);
        due("i most", x.plan(1, MOST), OUTSIDE);
        due("of none, i 12", x.plan(0, 12), OUTSIDE);
        KeptPages y = pages(0, 1, 2, 3, 4, 5, 0, 1, 2, 3, 4, 5);
        due("seven", y.plan(0b000001111111, NONE), 7000);
        due("the last seven", y.plan(0b111111100000, NONE), 7000);
        due("eight", y.plan(0b000011111111, NONE), OUTSIDE);
        due("eight, a knock", y.plan(0b000011111111, 0), OUTSIDE);
        due("all twelve", y.plan(0b111111111111, NONE), OUTSIDE);
        due("twelve and one that is not", y.plan(0b1111111111111, NONE), UNKNOWN);
    }

    // ---- links, likeness

    private static void linksAndLikeness() {
        links();
        more();
        likeness();
        promise(28);
        doc.says("The PAGE to which one MOVED; NONE.");
        KeptPages x = kinds();
        due("to none", x.moved(0), NONE);
        seen(x, 11, 1, 1);
        due("to page 1", x.moved(0), 1);
        due("it did not", x.moved(1), NONE);
        doc.says("UNKNOWN.");
        due("page 2", x.moved(2), UNKNOWN);
        for (int p : WILD) {
            due("page " + p, x.moved(p), UNKNOWN);
        }
    }

    private static void links() {
        promise(25);
        doc.says("LINKS of a PAGE's PROGRAM with a PURSE: i = NONE how many, else the i-th; NONE.");
        KeptPages x = pages(0, 1);
        Checks.program(x, 0, "row 5 by 2 times 3;");
        int[] want = {5, 7, 9};
        for (int purse = 0; purse <= 4; purse++) {
            due("how many with " + purse, x.links(0, purse, NONE), Math.min(3, purse));
            for (int i = 0; i < 4; i++) {
                due("link " + i + " with " + purse, x.links(0, purse, i), i < Math.min(3, purse) ? want[i] : NONE);
            }
        }
        due("no program", x.links(1, 200, 0), NONE);
        due("i -2", x.links(0, 200, -2), NONE);
        due("i least", x.links(0, 200, LEAST), NONE);
        due("i most", x.links(0, 200, MOST), NONE);
        doc.says("UNKNOWN, OUTSIDE (the PURSE).");
        due("page 2", x.links(2, 0, 0), UNKNOWN);
        due("purse 201", x.links(0, 201, 0), OUTSIDE);
        due("purse 200", x.links(0, 200, 0), 5);
        for (int wild : WILD) {
            due("page " + wild, x.links(wild, 0, 0), UNKNOWN);
            due("purse " + wild, x.links(0, wild, 0), OUTSIDE);
            due("purse " + wild + ", how many", x.links(0, wild, NONE), OUTSIDE);
        }
    }

    private static void more() {
        promise(26);
        doc.says("Whether a PROGRAM is a TRAP (2), else whether it has LINKS that are not come to with a PURSE (1, 0).");
        KeptPages x = pages(0, 1);
        due("none", x.more(0, 0), 0);
        Checks.program(x, 0, "link 1;");
        due("one, no purse", x.more(0, 0), 1);
        due("one, a purse of 1", x.more(0, 1), 0);
        Checks.program(x, 0, "row 1 by 1 times 0;");
        due("a row of none", x.more(0, 0), 0);
        Checks.program(x, 0, "row 1 by 1 times 199;link 1;");
        due("200 with 200", x.more(0, 200), 0);
        due("200 with 199", x.more(0, 199), 1);
        Checks.program(x, 0, "row 1 by 1 times 199;link 1;link 1;");
        due("201 with 200", x.more(0, 200), 1);
        Checks.program(x, 0, "row 1 by 1 times 999;".repeat(5));
        due("4995 with 200", x.more(0, 200), 1);
        Checks.program(x, 0, "ever 1 by 1;");
        due("a trap", x.more(0, 200), 2);
        due("a trap, no purse", x.more(0, 0), 2);
        due("another page's is none", x.more(1, 0), 0);
        doc.says("UNKNOWN, OUTSIDE.");
        due("page 2", x.more(2, 0), UNKNOWN);
        due("purse 201 of a trap", x.more(0, 201), OUTSIDE);
        due("purse 201", x.more(1, 201), OUTSIDE);
        for (int wild : WILD) {
            due("page " + wild, x.more(wild, 0), UNKNOWN);
            due("purse " + wild, x.more(0, wild), OUTSIDE);
        }
    }

    private static void likeness() {
        promise(27);
        doc.says("LIKENESS of two VIEWS.");
        KeptPages x = kinds();
        due("two", x.likeness(0, 1), 100);
        due("one twice", x.likeness(0, 0), 100);
        doc.says("UNKNOWN; NOT: one is not SEEN.");
        due("the second is gone", x.likeness(0, 2), NOT);
        due("the first is gone", x.likeness(2, 0), NOT);
        due("both are gone", x.likeness(2, 2), NOT);
        for (int l : new int[] {3, 4, 5, LEAST, -1, MOST}) {
            due(l + " second", x.likeness(0, l), UNKNOWN);
            due(l + " first", x.likeness(l, 0), UNKNOWN);
            due(l + " and a gone one", x.likeness(2, l), UNKNOWN);
            due("a gone one and " + l, x.likeness(l, 2), UNKNOWN);
        }
    }

    // ---- houses

    private static void houses() {
        lose();
        words();
        mend();
    }

    private static void lose() {
        promise(29);
        doc.says("A HOUSE LOSES a PIECE: 1.");
        KeptPages x = pages(0);
        seen(x, 0, 0, 1L << 59 | 1L << 32 | 1);
        int[] edges = {0, 32, 59};
        for (int house = 0; house < 3; house++) {
            for (int i = 0; i < 3; i++) {
                due("house " + house + " loses " + edges[i], x.lose(house, edges[i]), 1);
                due("house " + house + " has", x.count(7 + house), 2 - i);
            }
        }
        due("all are lost", x.count(10), 3);
        doc.says("UNKNOWN, OUTSIDE (PIECE); NOT: it has it not.");
        due("again", x.lose(0, 0), NOT);
        due("never had", x.lose(2, 58), NOT);
        due("piece 60", x.lose(0, 60), OUTSIDE);
        due("piece 64", x.lose(0, 64), OUTSIDE);
        due("house 3", x.lose(3, 0), UNKNOWN);
        for (int wild : WILD) {
            due("house " + wild, x.lose(wild, 0), UNKNOWN);
            due("piece " + wild, x.lose(0, wild), OUTSIDE);
        }
    }

    private static void words() {
        promise(30);
        doc.says("WORDS of two HOUSES.");
        KeptPages x = pages(0);
        seen(x, 0, 0, ALL);
        x.lose(1, 59);
        int[][] want = {{0, 13, 1}, {13, 0, 13}, {1, 13, 0}};
        for (int a = 0; a < 3; a++) {
            for (int b = 0; b < 3; b++) {
                if (a != b) {
                    due(a + " and " + b, x.words(a, b), want[a][b]);
                }
            }
        }
        doc.says("UNKNOWN, OUTSIDE: one twice.");
        for (int house = 0; house < 3; house++) {
            due(house + " twice", x.words(house, house), OUTSIDE);
            due(house + " and 3", x.words(house, 3), UNKNOWN);
            due("3 and " + house, x.words(3, house), UNKNOWN);
        }
        for (int wild : WILD) {
            due("0 and " + wild, x.words(0, wild), UNKNOWN);
            due(wild + " and 0", x.words(wild, 0), UNKNOWN);
            due(wild + " twice", x.words(wild, wild), UNKNOWN);
        }
    }

    private static void mend() {
        promise(31);
        doc.says("All are MENDED: how many PIECES came to some HOUSE, all together.");
        KeptPages x = pages(0);
        due("nothing there", x.mend(), 0);
        seen(x, 0, 0, ALL);
        due("nothing lost", x.mend(), 0);
        x.lose(2, 59);
        due("one", x.mend(), 1);
        due("it is there", x.count(9), 60);
        x.lose(0, 59);
        x.lose(1, 59);
        due("one to each of two", x.mend(), 2);
        for (int house = 0; house < 3; house++) {
            x.lose(house, 59);
        }
        due("lost by all", x.mend(), 0);
        due("lost for good", x.count(7), 59);
        for (int piece = 0; piece < 59; piece++) {
            x.lose(0, piece);
            x.lose(1, piece);
        }
        due("59 to each of two", x.mend(), 118);
        due("nothing more", x.mend(), 0);
    }

    // ---- shown

    private static void shown() {
        shownAsOf();
        since();
        promise(34);
        doc.says("FIRST to say a PIECE: the SET of PAGES that may be.");
        KeptPages x = pages(0, 1, 2, 3, 4, 5, 0, 1, 2, 3, 4, 5);
        due("nobody", x.first(0), 0);
        for (int p = 0; p < 12; p++) {
            seen(x, p, p, p % 11 == 0 ? 1 | 1L << 59 : 1);
        }
        due("all twelve", x.first(0), 0b111111111111);
        due("the first and the last", x.first(59), 0b100000000001);
        doc.says("OUTSIDE.");
        due("60", x.first(60), OUTSIDE);
        due("64", x.first(64), OUTSIDE);
        for (int piece : WILD) {
            due("" + piece, x.first(piece), OUTSIDE);
        }
        promise(35);
        doc.says("NOWHERE: the SET of PIECES.");
        due("none", x.nowhere(), 0);
        seen(x, 20, 0, 0);
        due("the last says them", x.nowhere(), 0);
        gone(x, 20, 11);
        due("59 is said by none", x.nowhere(), 1L << 59);
        due("of a new one", new KeptPages().nowhere(), 0);
    }

    private static void shownAsOf() {
        promise(32);
        doc.says("SHOWN of a PAGE as of t: what = 0 the LOOK (NONE), 1 AGE (NONE), 2 STATE at t as in it (NONE).");
        KeptPages x = kinds();
        int[] look = {NONE, NONE, 0, 0, 1, 1, 2, 2, 2, 2, 2};
        int[] age = {NONE, NONE, 0, 1, 0, 1, 0, 1, 2, 3, 4};
        int[] state = {NONE, NONE, 2, 2, 2, 1, 2, 1, 1, 1, 1};
        for (int t = 0; t <= 10; t++) {
            due("the look at " + t, x.shown(0, t, 0), look[t]);
            due("its age at " + t, x.shown(0, t, 1), age[t]);
            due("its state at " + t, x.shown(0, t, 2), state[t]);
            for (int what = 0; what <= 2; what++) {
                due("no views, " + what, x.shown(1, t, what), NONE);
            }
        }
        dated(x, 11, 0, 2, 6);
        due("in a quarrel", x.shown(0, 6, 2), 1);
        due("another since", x.shown(0, 7, 2), 0);
        doc.says("UNKNOWN, OUTSIDE.");
        due("page 2", x.shown(2, 0, 0), UNKNOWN);
        due("at 12", x.shown(0, 12, 0), OUTSIDE);
        due("what 3", x.shown(0, 0, 3), OUTSIDE);
        due("no views, what 3", x.shown(1, 0, 3), OUTSIDE);
        for (int wild : WILD) {
            due("page " + wild, x.shown(wild, 0, 0), UNKNOWN);
            due("at " + wild, x.shown(0, wild, 0), OUTSIDE);
            due("what " + wild, x.shown(0, 5, wild), OUTSIDE);
        }
    }

    private static void since() {
        promise(33);
        doc.says("SINCE a PAGE says a PIECE: what = 0 the earliest, 1 the latest.");
        KeptPages x = pages(0, 1);
        seen(x, 3, 0, 1L << 59);
        dated(x, 9, 0, 1L << 59 | 1, 8);
        due("59, earliest", x.since(0, 59, 0), 0);
        due("59, latest", x.since(0, 59, 1), 3);
        due("0, earliest", x.since(0, 0, 0), 4);
        due("0, latest", x.since(0, 0, 1), 8);
        doc.says("UNKNOWN, OUTSIDE, NOT: it does not.");
        due("another piece", x.since(0, 58, 0), NOT);
        due("no views", x.since(1, 0, 1), NOT);
        due("piece 60", x.since(0, 60, 0), OUTSIDE);
        due("piece 64", x.since(0, 64, 0), OUTSIDE);
        due("what 2", x.since(0, 0, 2), OUTSIDE);
        due("page 2", x.since(2, 0, 0), UNKNOWN);
        for (int wild : WILD) {
            due("page " + wild, x.since(wild, 0, 0), UNKNOWN);
            due("piece " + wild, x.since(0, wild, 0), OUTSIDE);
            due("what " + wild, x.since(0, 0, wild), OUTSIDE);
        }
        gone(x, 10, 0);
        due("gone", x.since(0, 0, 0), NOT);
    }

    private static void notPromised() {
        doc.section("## Not promised");
        doc.names("How the state is held inside the object is free, as are the speed of each call, the text of toString and the "
            + "behaviour of equals and hashCode.");
        doc.names("Use of one object from several threads at once is not promised to be safe.");
        doc.says("Nothing is promised beyond the answers and state changes described above, and nothing about an object after its "
            + "512th call.");
        // Rule 7 of LANGUAGE.md holds then, too: such calls answer something and end.
        KeptPages x = Twins.full();
        for (int call = 0; call < 5000; call++) {
            x.go(1);
            x.look(call % 13, call % 4, 1L << call % 61, call % 40 - 2);
            x.take(call % 101);
            x.part(call % 103);
            x.feed(call % 10, call * 0x0101010101010101L);
            x.lose(call % 4, call % 62);
            x.mend();
        }
        doc.holds("an answer far behind the 512th call", x.count(1) == 12);
    }
}
