import java.io.IOException;
import java.util.List;

/** The document's terms, sentence by sentence: both sides of each boundary that a sentence names. */
public final class EdgesOfTermsTests extends Scene {
    private static final long ALL = (1L << 60) - 1;
    private static final Sentences doc = new Sentences();

    private static void due(String call, long got, long want) {
        doc.due(call, got, want);
    }

    public static void main(String[] args) throws IOException {
        whatItIs();
        terms();
        pagesAndLooks();
        rights();
        whatItWas();
        wholes();
        ratesAndNights();
        programsAndLikeness();
        housesAndShown();
        doc.end("EdgesOfTermsTests");
    }

    private static void whatItIs() {
        doc.section("## What it is");
        doc.names("Pages kept as they were: pages that change without saying, seen at looks only; what each surely was, "
            + "could be, was not at any hour; wholes of pages that stood together, at which hours, and if at none, the "
            + "fewest that did not stand with the others; doors that let one knock in so long, some never; nights of so "
            + "many knocks planned for the most; rates by looks; links found by little programs with a purse, rows that "
            + "never end; pages alike but for their clothes, moved ones found by likeness; pieces kept once in three "
            + "houses that find what differs in few words, mended or lost; shown as of an hour, each by its look; since "
            + "when it said so, who said it first, what is said nowhere any more; looks taken out, and what the hole "
            + "tells; rights in a text.");
        doc.says("An object is used for at most 512 calls after it has been made; what later calls answer is free.");
        KeptPages x = new KeptPages();
        for (int call = 1; call <= 512; call++) {
            due("call " + call + " go(1)", x.go(1), call);
        }
        KeptPages y = Twins.full();
        for (int call = 162; call < 512; call++) {
            y.whole(call % 6);
        }
        due("the 512th of a full one", y.count(2), 100);
    }

    // ---- Terms

    private static void terms() {
        doc.section("## Terms");
        doc.names("Words in capitals are told where they come first.");
        divisionCuts();
        numbersFromNought();
        sets();
        doc.says("NONE is -1.");
        due("NONE", KeptPages.NONE, -1);
        due("no view", pages(0).view(0, 0), -1);
        due("i = NONE", pages(0).view(0, -1), 0);
        refusalsInOrder();
        refusedChangesNothing();
    }

    private static void divisionCuts() {
        doc.says("All numbers are whole; / cuts towards 0.");
        KeptPages x = pages(0, 1);
        seen(x, 0, 0, 1);
        seen(x, 0, 1, 1);
        seen(x, 7, 0, 2);
        due("1000 / 7", x.rate(0), 142);
        seen(x, 1000, 1, 2);
        due("1000 / 1000", x.rate(1), 1);
        x.take(3);
        seen(x, 1001, 1, 2);
        due("1000 / 1001", x.rate(1), 0);
        seen(x, 1002, 0, 0b0111);
        seen(x, 1003, 0, 0b1011);
        seen(x, 1004, 0, 0b0011);
        due("200 / 4", x.likeness(5, 6), 50);
        due("200 / 3", x.likeness(6, 7), 66);
    }

    private static void numbersFromNought() {
        doc.says("What has a number has it from 0 on, as it comes.");
        KeptPages x = new KeptPages();
        due("the first page", x.page(3), 0);
        due("the second page", x.page(3), 1);
        due("the first look", x.look(0, 0, 1, NONE), 0);
        x.go(1);
        due("the second look", x.look(1, 0, 1, NONE), 1);
        x.take(1);
        x.go(1);
        due("behind a hole", x.look(0, 0, 2, NONE), 2);
        due("view 0", x.view(0, 0), 0);
        due("view 1", x.view(0, 1), 2);
        Checks.program(x, 0, "link 7;link 8;");
        due("link 0", x.links(0, 2, 0), 7);
        due("knock 0", x.plan(1, 0), 0);
        due("piece 0", x.first(0), 1);
    }

    private static void sets() {
        doc.says("A SET is a whole number, bit k for k (of PIECES a long).");
        KeptPages x = pages(0, 1, 2, 3, 4, 5, 0, 1, 2, 3, 4, 5);
        int[] edges = {0, 31, 32, 59};
        for (int i = 0; i < edges.length; i++) {
            long set = 1L << edges[i];
            int l = seen(x, i, 11, set);
            due("pieces of bit " + edges[i], x.pieces(l), set);
            due("how many of bit " + edges[i], x.told(l, 4), 1);
            for (int piece : edges) {
                due("bit " + edges[i] + " says piece " + piece, x.since(11, piece, 1), piece == edges[i] ? i : NOT);
            }
        }
        due("all but the last are nowhere", x.nowhere(), 1L | 1L << 31 | 1L << 32);
        due("page 11 is bit 11", x.first(32), 1 << 11);
        due("bit 11 is page 11", x.plan(1 << 11, 0), 11);
        due("loses 32", x.lose(0, 32), 1);
        due("has 0 still", x.lose(0, 0), 1);
        due("has 32 no more", x.lose(0, 32), NOT);
        due("has 31 still", x.lose(0, 31), 1);
        due("has 59 still", x.lose(0, 59), 1);
        Checks.rights(x, "clothes 32;");
        due("piece 32 is clothes", x.likeness(2, 2), 100);
        due("piece 0 is none", x.alike(0, 2), 0);
        due("bit 12", x.plan(1 << 12, 0), UNKNOWN);
        due("bit 31", x.plan(1 << 31, 0), UNKNOWN);
    }

    private static void refusalsInOrder() {
        doc.says("REFUSALS, of several the first in this order: UNKNOWN (a PAGE, DOOR, LOOK, HOUSE that there is not), "
            + "OUTSIDE (another number out of its bounds), NOT (not now, as told), FULL.");
        unknownFirst();
        KeptPages x = Twins.rich();
        due("look: OUTSIDE, NOT", x.look(2, 3, 0, NONE), OUTSIDE);
        due("look: OUTSIDE of never", x.look(4, 0, 1L << 60, NONE), OUTSIDE);
        due("since: OUTSIDE, NOT", x.since(4, 60, 0), OUTSIDE);
        due("since: OUTSIDE by what, NOT", x.since(4, 0, 2), OUTSIDE);
        x.wipe();
        due("whole: OUTSIDE, NOT", x.whole(6), OUTSIDE);
        due("likeness: UNKNOWN, NOT", x.likeness(3, 8), UNKNOWN);
        due("likeness: NOT, UNKNOWN", x.likeness(8, 3), UNKNOWN);
        goTo(x, 2999);
        due("go: OUTSIDE, NOT", x.go(501), OUTSIDE);
        due("go: NOT", x.go(2), NOT);
        KeptPages y = Twins.full();
        due("page: UNKNOWN, FULL", y.page(6), UNKNOWN);
        due("look: UNKNOWN, FULL", y.look(12, 0, 1, NONE), UNKNOWN);
        due("look: OUTSIDE, FULL", y.look(4, 0, 1, 17), OUTSIDE);
        due("look: OUTSIDE, NOT, FULL", y.look(0, 0, 1, 17), OUTSIDE);
        due("look: NOT, FULL", y.look(0, 0, 1, NONE), NOT);
        due("look: FULL", y.look(4, 0, 1, NONE), FULL);
        due("part: UNKNOWN, FULL", y.part(100), UNKNOWN);
        due("part: NOT, FULL", y.part(12), NOT);
        due("part: FULL", y.part(8), FULL);
        due("feed: OUTSIDE, FULL", y.feed(9, 0), OUTSIDE);
        due("feed: FULL", y.feed(1, 0), FULL);
        due("program: UNKNOWN, NOT", y.program(12), UNKNOWN);
        due("program: NOT", y.program(0), NOT);
        y.take(0);
        y.take(13);
        due("part: a hole, FULL or not", y.part(13), UNKNOWN);
    }

    private static void unknownFirst() {
        KeptPages x = Twins.rich();
        due("look", x.look(5, 3, -1, 99), UNKNOWN);
        due("told", x.told(8, 6), UNKNOWN);
        due("sure", x.sure(5, -1), UNKNOWN);
        due("state", x.state(8, -1), UNKNOWN);
        due("hours", x.hours(8, 5, 4, 3), UNKNOWN);
        due("bothWays", x.bothWays(1 << 5, 5, 4), UNKNOWN);
        due("plan of too many", x.plan(-1, NONE), UNKNOWN);
        due("plan", x.plan(1 << 5, 12), UNKNOWN);
        due("links", x.links(5, 201, 0), UNKNOWN);
        due("more", x.more(5, 201), UNKNOWN);
        due("lose", x.lose(3, 60), UNKNOWN);
        due("words", x.words(3, 3), UNKNOWN);
        due("shown", x.shown(5, -1, 3), UNKNOWN);
        due("since", x.since(5, 60, 2), UNKNOWN);
    }

    private static void refusedChangesNothing() {
        doc.says("What is refused changes nothing.");
        List<Long> rich = Twins.allOf(Twins.rich());
        for (Twins.Refused refused : refusedByRich()) {
            KeptPages x = Twins.rich();
            due(refused.call(), refused.made().applyAsLong(x), refused.want());
            doc.holds(refused.call() + " leaves all as it was", Twins.allOf(x).equals(rich));
        }
        List<Long> full = Twins.allOf(Twins.full());
        for (Twins.Refused refused : refusedByFull()) {
            KeptPages x = Twins.full();
            due("full: " + refused.call(), refused.made().applyAsLong(x), refused.want());
            doc.holds("full: " + refused.call() + " leaves all as it was", Twins.allOf(x).equals(full));
        }
    }

    private static List<Twins.Refused> refusedByRich() {
        return List.of(
            new Twins.Refused("go(501)", x -> x.go(501), OUTSIDE),
            new Twins.Refused("go(-1)", x -> x.go(-1), OUTSIDE),
            new Twins.Refused("page(6)", x -> x.page(6), UNKNOWN),
            new Twins.Refused("look of no page", x -> x.look(5, 0, 1, NONE), UNKNOWN),
            new Twins.Refused("look of kind 3", x -> x.look(1, 3, 1L << 40, NONE), OUTSIDE),
            new Twins.Refused("look with piece 60", x -> x.look(1, 0, 1L << 60 | 1L << 40, NONE), OUTSIDE),
            new Twins.Refused("look with a date to come", x -> x.look(1, 0, 1L << 40, 11), OUTSIDE),
            new Twins.Refused("look too early", x -> x.look(2, 0, 1L << 40, NONE), NOT),
            new Twins.Refused("look at never", x -> x.look(4, 0, 1L << 40, NONE), NOT),
            new Twins.Refused("take(8)", x -> x.take(8), UNKNOWN),
            new Twins.Refused("take(2)", x -> x.take(2), NOT),
            new Twins.Refused("feed(0)", x -> x.feed(0, 59), OUTSIDE),
            new Twins.Refused("feed(9)", x -> x.feed(9, 59), OUTSIDE),
            new Twins.Refused("program(5)", x -> x.program(5), UNKNOWN),
            new Twins.Refused("part(8)", x -> x.part(8), UNKNOWN),
            new Twins.Refused("part of a barred one", x -> x.part(4), UNKNOWN),
            new Twins.Refused("part of a hole", x -> x.part(2), UNKNOWN),
            new Twins.Refused("part of a gone one", x -> x.part(3), NOT),
            new Twins.Refused("part of a page there", x -> x.part(6), NOT),
            new Twins.Refused("whole(6)", x -> x.whole(6), OUTSIDE),
            new Twins.Refused("lose(3, 0)", x -> x.lose(3, 0), UNKNOWN),
            new Twins.Refused("lose(2, 60)", x -> x.lose(2, 60), OUTSIDE),
            new Twins.Refused("lose(2, 64)", x -> x.lose(2, 64), OUTSIDE),
            new Twins.Refused("lose again", x -> x.lose(0, 0), NOT));
    }

    private static List<Twins.Refused> refusedByFull() {
        return List.of(
            new Twins.Refused("page(0)", x -> x.page(0), FULL),
            new Twins.Refused("look(4)", x -> x.look(4, 0, 1, NONE), FULL),
            new Twins.Refused("look(0)", x -> x.look(0, 0, 1, NONE), NOT),
            new Twins.Refused("part(8)", x -> x.part(8), FULL),
            new Twins.Refused("feed(1)", x -> x.feed(1, 59), FULL),
            new Twins.Refused("feed(8)", x -> x.feed(8, 59), FULL),
            new Twins.Refused("program(0)", x -> x.program(0), NOT));
    }

    // ---- 1

    private static void pagesAndLooks() {
        doc.section("======== 1 ");
        hours();
        doors();
        pagesAtMost();
        looksAtMost();
        seenLooks();
        goneAndBarred();
        holes();
        views();
        alike();
    }

    private static void hours() {
        doc.says("HOURS are 0 to 3000; NOW is one (0 at first).");
        KeptPages x = pages(0);
        due("at first", x.count(0), 0);
        due("a look at 0", seen(x, 0, 0, 1), 0);
        due("its hour", x.told(0, 1), 0);
        goTo(x, 3000);
        due("at last", x.count(0), 3000);
        due("no hour behind", x.go(1), NOT);
        due("a look at 3000", x.look(0, 0, 2, NONE), 1);
        due("its hour", x.told(1, 1), 3000);
        due("sure at 0", x.sure(0, 0), 0);
        due("sure at 3000", x.sure(0, 3000), 1);
        due("sure at 3001", x.sure(0, 3001), OUTSIDE);
        due("sure at -1", x.sure(0, -1), OUTSIDE);
        due("all hours", x.hours(0, 0, 3000, 1), 2999);
        due("the first hour", x.hours(0, 0, 3000, 2), 1);
        due("the last hour", x.hours(0, 0, 3000, 0), 1);
    }

    private static void doors() {
        doc.says("DOORS 0 to 5.");
        KeptPages x = new KeptPages();
        due("-1", x.page(-1), UNKNOWN);
        due("6", x.page(6), UNKNOWN);
        due("least", x.page(LEAST), UNKNOWN);
        due("most", x.page(MOST), UNKNOWN);
        for (int door = 0; door <= 5; door++) {
            due("" + door, x.page(door), door);
        }
    }

    private static void pagesAtMost() {
        doc.says("PAGES (12 at most) are behind a DOOR.");
        KeptPages x = pages(2, 2, 3, 0, 0, 0, 0, 0, 0, 0, 0);
        due("the 12th", x.page(2), 11);
        due("the 13th", x.page(2), FULL);
        due("how many", x.count(1), 12);
        due("the 12th is one", x.look(11, 0, 1, NONE), 0);
        due("the 13th is none", x.look(12, 0, 1, NONE), UNKNOWN);
        due("its door is that of page 0", x.look(0, 0, 1, NONE), NOT);
        due("and of page 1", x.look(1, 0, 1, NONE), NOT);
        due("not of page 2", x.look(2, 0, 1, NONE), 1);
    }

    private static void looksAtMost() {
        doc.says("A LOOK (100 at most) at a PAGE is of the hour NOW, of a KIND:");
        KeptPages x = pages(0, 1);
        for (int l = 0; l < 99; l++) {
            seen(x, l, 0, 1);
        }
        due("the 100th", seen(x, 99, 0, 1), 99);
        due("of the hour", x.told(99, 1), 99);
        due("the 101st", x.look(1, 0, 1, NONE), FULL);
        due("barred too", x.look(1, 2, 0, NONE), FULL);
        x.take(0);
        due("holes count", x.look(1, 0, 1, NONE), FULL);
        due("how many", x.count(2), 100);
        KeptPages y = pages(0, 1, 2);
        due("kind -1", y.look(0, -1, 1, NONE), OUTSIDE);
        due("kind 3", y.look(0, 3, 1, NONE), OUTSIDE);
        due("kind least", y.look(0, LEAST, 1, NONE), OUTSIDE);
        due("kind most", y.look(0, MOST, 1, NONE), OUTSIDE);
        for (int kind = 0; kind <= 2; kind++) {
            due("kind " + kind, y.look(kind, kind, 0, NONE), kind);
            due("it is told", y.told(kind, 2), kind);
        }
    }

    private static void seenLooks() {
        doc.says("0 SEEN: a SET of PIECES (0 to 59), maybe with a DATE (an hour not after NOW, since when it is so, it says; "
            + "NONE);");
        KeptPages x = pages(0, 1, 2, 3, 4, 5);
        x.go(20);
        for (int bit = 60; bit < 64; bit++) {
            due("bit " + bit, x.look(0, 0, 1L << bit, NONE), OUTSIDE);
            due("all and bit " + bit, x.look(0, 0, ALL | 1L << bit, NONE), OUTSIDE);
        }
        due("all", x.look(0, 0, ALL, NONE), 0);
        due("all 60", x.told(0, 4), 60);
        due("none", x.look(1, 0, 0, NONE), 1);
        due("none are 0", x.told(1, 4), 0);
        due("after now", x.look(2, 0, 1, 21), OUTSIDE);
        due("most", x.look(2, 0, 1, MOST), OUTSIDE);
        due("-2", x.look(2, 0, 1, -2), OUTSIDE);
        due("least", x.look(2, 0, 1, LEAST), OUTSIDE);
        due("now", x.look(2, 0, 1, 20), 2);
        due("now is told", x.told(2, 3), 20);
        due("date 0", x.look(3, 0, 1, 0), 3);
        due("0 is told", x.told(3, 3), 0);
        due("since 0", x.sure(3, 0), 3);
        due("NONE", x.look(4, 0, 1, NONE), 4);
        due("NONE is told", x.told(4, 3), NONE);
        due("not since 0", x.sure(4, 0), NONE);
        KeptPages y = pages(0);
        due("date 0 at the hour 0", y.look(0, 0, 1, 0), 0);
        due("date 1 at the hour 0", pages(0).look(0, 0, 1, 1), OUTSIDE);
    }

    private static void goneAndBarred() {
        doc.says("1 GONE; 2 BARRED (nothing is known by it).");
        KeptPages x = pages(0);
        seen(x, 0, 0, 0b11);
        seen(x, 10, 0, 0b11);
        long[] before = known(x);
        goTo(x, 11);
        due("a barred look", x.look(0, 2, ALL, 0), 2);
        long[] after = known(x);
        for (int i = 0; i < before.length; i++) {
            due("what is known, " + i, after[i], before[i]);
        }
        KeptPages y = pages(0);
        seen(y, 0, 0, 1);
        barred(y, 12, 0);
        seen(y, 24, 0, 1);
        due("barred between two alike", y.sure(0, 12), 0);
        gone(y, 25, 0);
        due("gone says nothing", y.since(0, 0, 0), NOT);
        due("gone is known", y.sure(0, 25), 3);
        due("pieces of a gone one", y.pieces(3), 0);
    }

    private static long[] known(KeptPages x) {
        return new long[] {x.view(0, NONE), x.count(4), x.sure(0, 10), x.rate(0), x.since(0, 0, 1), x.nowhere(), x.count(7),
            x.shown(0, 10, 0), x.state(0, 10), x.first(0), x.moved(0)};
    }

    private static void holes() {
        doc.says("A LOOK may be TAKEN OUT: a HOLE stays, that tells its PAGE and hour, no more.");
        KeptPages x = pages(0, 1);
        seen(x, 2, 1, 1);
        dated(x, 5, 1, 0b110, 3);
        due("taken out", x.take(1), 1);
        int[] want = {1, 5, NONE, NONE, NONE, 1};
        for (int what = 0; what <= 5; what++) {
            due("told " + what, x.told(1, what), want[what]);
        }
        due("pieces", x.pieces(1), 0);
        due("alike", x.alike(1, 1), UNKNOWN);
        due("no claim", x.sure(1, 4), NONE);
        due("no claim of its own hour", x.sure(1, 5), NONE);
        due("no view", x.view(1, NONE), 1);
        due("not said", x.first(1), 0);
        due("a hole is a look still", x.count(2), 2);
        due("and a knock", x.look(1, 0, 1, NONE), NOT);
    }

    private static void views() {
        doc.says("VIEWS of a PAGE: its LOOKS by hours, without BARRED ones and HOLES.");
        KeptPages x = pages(0, 1);
        due("none at first", x.view(0, NONE), 0);
        dated(x, 5, 0, 1, 5);
        dated(x, 6, 0, 2, 1);
        seen(x, 6, 1, 2);
        barred(x, 7, 0);
        gone(x, 8, 0);
        due("how many", x.view(0, NONE), 3);
        due("by hours, not by dates", x.view(0, 0), 0);
        due("then", x.view(0, 1), 1);
        due("then gone", x.view(0, 2), 4);
        due("no more", x.view(0, 3), NONE);
        x.take(0);
        due("without the hole", x.view(0, 0), 1);
        due("of all pages", x.count(4), 3);
    }

    private static void alike() {
        doc.says("ALIKE are two VIEWS, both GONE, or both SEEN with the same PIECES but for CLOTHES.");
        KeptPages x = pages(0, 1);
        gone(x, 0, 0);
        gone(x, 0, 1);
        seen(x, 1, 0, 0);
        seen(x, 1, 1, 1);
        seen(x, 2, 0, ALL);
        seen(x, 2, 1, ALL ^ 1L << 59);
        due("gone both", x.alike(0, 1), 1);
        due("gone and empty", x.alike(0, 2), 0);
        due("empty and gone", x.alike(2, 1), 0);
        due("empty and one", x.alike(2, 3), 0);
        due("all but one", x.alike(4, 5), 0);
        Checks.rights(x, "clothes 59;");
        due("all but clothes", x.alike(4, 5), 1);
        due("piece 0 is no clothes", x.alike(2, 3), 0);
        StringBuilder all = new StringBuilder("clothes 0");
        for (int p = 1; p < 60; p++) {
            all.append(',').append(p);
        }
        due("60 clothes", Checks.rights(x, all.append(';').toString()), 1);
        due("all and empty, in clothes", x.alike(2, 4), 1);
        due("gone is not alike even so", x.alike(0, 4), 0);
    }

    // ---- 2

    private static void rights() {
        doc.section("======== 2 ");
        rightsAtMost();
        clauses();
        rightsAtFirst();
        numbers();
        words();
        faultsInOrder();
        faultOne();
        faultTwo();
        faultThree();
        faultFour();
        let();
    }

    /** Reads the text on rights of another make: they must stay with a fault, and go without one. */
    private static void reads(String text, int answer, int place) {
        KeptPages x = new KeptPages();
        Checks.rights(x, "night 5;let 3 each 9;clothes 1;");
        due("\"" + text + "\"", Checks.rights(x, text), answer);
        due("\"" + text + "\" fault()", x.fault(), place);
        if (answer < 0) {
            due("\"" + text + "\" night as it was", x.right(6), 5);
            due("\"" + text + "\" let as it was", x.right(3), 9);
            due("\"" + text + "\" clothes as they were", x.right(8), 1);
        }
    }

    private static void good(String text, int clauses) {
        reads(text, clauses, NONE);
    }

    private static void bad(String text, int fault, int place) {
        reads(text, -10 - fault, place);
    }

    private static void rightsAtMost() {
        doc.says("RIGHTS are a text (200 bytes at most):");
        good("night 3;" + " ".repeat(192), 1);
        good(" ".repeat(192) + "night 3;", 1);
        bad("night 3" + " ".repeat(193), 1, 200);
        bad(" ".repeat(199) + ";", 1, 199);
        KeptPages x = new KeptPages();
        Checks.feed(x, "night 3;" + " ".repeat(192));
        due("the 201st byte", x.feed(1, ';'), FULL);
        due("200 bytes", x.count(6), 200);
        due("they are read", x.read(), 1);
        good("", 0);
    }

    private static void clauses() {
        doc.says("clause = 'never' D ';'   'let' D 'each' N ';'   'night' N ';'   'patience' N ';'   "
            + "'clothes' P {',' P} ';'.");
        String[] clauses = {"never 1;", "let 1 each 2;", "night 3;", "patience 4;", "clothes 5;", "clothes 5,6;"};
        for (String clause : clauses) {
            good(clause, 1);
            // Each clause cut off anywhere is none, and has its fault no later than at its end.
            for (int end = 1; end < clause.length(); end++) {
                KeptPages x = new KeptPages();
                due("\"" + clause.substring(0, end) + "\"", Checks.rights(x, clause.substring(0, end)), -11);
                int lastWord = clause.substring(0, end).matches(".*[a-z]") ? x.fault() : end;
                due("\"" + clause.substring(0, end) + "\" fault()", x.fault(), lastWord);
            }
        }
        bad("clothes;", 1, 7);
        bad("clothes 1,;", 1, 10);
        bad("clothes ,1;", 1, 8);
        bad("clothes 1,,2;", 1, 10);
        bad("clothes 1 2;", 1, 10);
        bad("never 1,2;", 1, 7);
        bad("night 3,4;", 1, 7);
        bad("night;", 1, 5);
        bad("let each 2;", 1, 4);
        bad("let 1 2;", 1, 6);
        bad("let 1 night 2;", 1, 6);
        bad("night 3;;", 1, 8);
        bad("night 3", 1, 7);
        good("never 0;never 1;never 2;never 3;never 4;never 5;", 6);
        good("let 0 each 1;let 1 each 1;let 2 each 1;let 3 each 1;let 4 each 1;let 5 each 1;", 6);
    }

    private static void rightsAtFirst() {
        doc.says("At first, and what a text does not tell: no DOOR D (0 .. 5) never, each let each 1 (1 .. 99), night 8 "
            + "(1 .. 12), patience 24 (0 .. 999), no CLOTHES P (0 .. 59).");
        int[] atFirst = {1, 1, 1, 1, 1, 1, 8, 24, 0};
        due("all told", Checks.rights(new KeptPages(), "never 0;let 1 each 2;night 3;patience 4;clothes 5;"), 5);
        for (String text : new String[] {null, "", "   "}) {
            KeptPages x = new KeptPages();
            if (text != null) {
                Checks.rights(x, "never 0;let 1 each 2;night 3;patience 4;clothes 5;");
                due("\"" + text + "\"", Checks.rights(x, text), 0);
            }
            for (int what = 0; what <= 8; what++) {
                due("right(" + what + ") of \"" + text + "\"", x.right(what), atFirst[what]);
            }
        }
        // However many texts told something: the next one that does not has it as at first.
        KeptPages often = new KeptPages();
        for (int times = 1; times <= 4; times++) {
            for (int i = 0; i < times; i++) {
                Checks.rights(often, "never 0;let 0 each 7;let 5 each 2;never 5;night 3;patience 4;clothes 5;");
            }
            Checks.rights(often, "let 3 each 1;");
            for (int what = 0; what <= 8; what++) {
                due("right(" + what + ") after " + times, often.right(what), atFirst[what]);
            }
        }
        bounds("never ", 0, 5, ";");
        bounds("let ", 0, 5, " each 1;");
        bounds("let 0 each ", 1, 99, ";");
        bounds("night ", 1, 12, ";");
        bounds("patience ", 0, 999, ";");
        bounds("clothes ", 0, 59, ";");
        bounds("clothes 5, ", 6, 59, ";");
        told("let 5 each 99;", 5, 99);
        told("let 0 each 1;", 0, 1);
        told("never 5;", 5, 0);
        told("never 0;", 0, 0);
        told("night 1;", 6, 1);
        told("night 12;", 6, 12);
        told("patience 0;", 7, 0);
        told("patience 999;", 7, 999);
        told("clothes 0,59;", 8, 2);
    }

    /** The least and the most stand; one less (where there is one) and one more are faults at the number. */
    private static void bounds(String ahead, int least, int most, String behind) {
        good(ahead + least + behind, 1);
        good(ahead + most + behind, 1);
        bad(ahead + (most + 1) + behind, 2, ahead.length());
        if (least == 1) {
            bad(ahead + "0" + behind, 2, ahead.length());
        }
    }

    private static void told(String text, int what, int want) {
        KeptPages x = new KeptPages();
        Checks.rights(x, text);
        due("right(" + what + ") of \"" + text + "\"", x.right(what), want);
        for (int other = 0; other <= 8; other++) {
            if (other != what) {
                due("right(" + other + ") of \"" + text + "\"", x.right(other), new KeptPages().right(other));
            }
        }
    }

    private static void numbers() {
        doc.says("NUMBERS have one to three figures;");
        bad("patience ;", 1, 9);
        good("patience 5;", 1);
        good("patience 05;", 1);
        good("patience 005;", 1);
        bad("patience 0005;", 2, 9);
        good("patience 090;", 1);
        good("patience 999;", 1);
        bad("patience 1000;", 2, 9);
        bad("patience 4294967320;", 2, 9);
        bad("patience 18446744073709551640;", 2, 9);
        told("patience 019;", 7, 19);
        told("patience 908;", 7, 908);
        bad("patience /;", 1, 9);
        bad("patience :;", 1, 9);
        bad("patience 1/;", 1, 10);
        bad("patience 1:;", 1, 10);
        bad("patience -1;", 1, 9);
        bad("patience +1;", 1, 9);
    }

    private static void words() {
        doc.says("words are letters a .. z side by side;");
        bad("nighta 3;", 1, 0);
        bad("nightz 3;", 1, 0);
        bad("anight 3;", 1, 0);
        bad("znight 3;", 1, 0);
        bad("night`3;", 1, 5);
        bad("night{3;", 1, 5);
        bad("nighT 3;", 1, 0);
        bad("Night 3;", 1, 0);
        bad("night@3;", 1, 5);
        bad("night" + (char) 225 + "3;", 1, 5);
        bad("let 1 eacha 3;", 1, 6);
        bad("let 1 each`3;", 1, 10);
        doc.says("blanks (32) may stand anywhere but within words and NUMBERS;");
        good("let1each2;clothes3,4;", 2);
        good("  let  1  each  2  ;  clothes  3  ,  4  ;  ", 2);
        bad("nig ht 3;", 1, 0);
        bad("night 1 2;", 1, 8);
        bad("patience 00 05;", 1, 12);
        for (int other : new int[] {0, 9, 10, 13, 31, 33, 160, 255}) {
            bad("night" + (char) other + "3;", 1, 5);
            bad((char) other + "night 3;", 1, 0);
            bad("night 3;" + (char) other, 1, 8);
        }
        doc.says("two words side by side need one.");
        bad("nightpatience 3;", 1, 0);
        bad("night patience 3;", 1, 6);
        bad("let 1 eacheach 3;", 1, 6);
        bad("let 1 each each 3;", 1, 11);
    }

    private static void faultsInOrder() {
        doc.says("FAULTS, at the first byte that has one (the end at the text's length), of these the least:");
        bad("night 0;x", 2, 6);
        bad("x night 0;", 1, 0);
        bad("night", 1, 5);
        bad("night   ", 1, 8);
        bad("clothes 1,", 1, 10);
        // At one byte there are two: a number that cannot stand there and is too long, or was told already.
        bad("1234;", 1, 0);
        bad("night 3 1234;", 1, 8);
        bad("never 0;never 0000;", 2, 14);
        bad("never 1;never 0001;", 2, 14);
        bad("let 0 each 1;let 0000 each 1;", 2, 17);
        bad("clothes 0,0000;", 2, 10);
        bad("clothes 1,0001;", 2, 10);
        // The word of a clause told already comes ahead of what is wrong behind it.
        bad("night 3;night 0;", 3, 8);
        bad("night 3;night", 3, 8);
        bad("never 1;never 1", 3, 14);
        bad("never 1;never", 1, 13);
        bad("clothes 1,1", 4, 10);
        bad("clothes 1,1,60;", 4, 10);
        bad("clothes 1,60,1;", 2, 10);
    }

    private static void faultOne() {
        doc.says("1 it cannot stand there (a word that cannot: at its first letter).");
        bad("link 3;", 1, 0);
        bad("each 3;", 1, 0);
        bad("night 3;each 3;", 1, 8);
        bad("let 1 eac 3;", 1, 6);
        bad("nigh", 1, 0);
        bad("n", 1, 0);
        bad("never x;", 1, 6);
        bad("never 1x;", 1, 7);
        bad("never 1 xyz;", 1, 8);
        bad("3", 1, 0);
        bad(",", 1, 0);
        bad(";", 1, 0);
        bad("never ;", 1, 6);
        bad("never ,1;", 1, 6);
    }

    private static void faultTwo() {
        doc.says("2 a NUMBER of four figures or more, or out of its bounds (at its first).");
        bad("never 6;", 2, 6);
        bad("never 006;", 2, 6);
        bad("never 0005;", 2, 6);
        bad("let 6 each 1;", 2, 4);
        bad("let 1 each 0;", 2, 11);
        bad("let 1 each 000;", 2, 11);
        bad("let 1 each 100;", 2, 11);
        bad("night 000;", 2, 6);
        bad("night 13", 2, 6);
        bad("patience 0000", 2, 9);
        bad("clothes 60", 2, 8);
        bad("clothes 1 , 999x", 2, 12);
        bad("never 1;  never  6;", 2, 17);
    }

    private static void faultThree() {
        doc.says("3 a clause told already: night, patience, clothes (at its first letter), never, let of that D (at the D).");
        bad("night 3;night 3;", 3, 8);
        bad("patience 3;patience 4;", 3, 11);
        bad("clothes 3;clothes 4;", 3, 10);
        bad("night 3;patience 3;clothes 3;  night 3;", 3, 31);
        bad("never 3;never 3;", 3, 14);
        bad("never 3;never 003;", 3, 14);
        bad("never 0;never 5;never  0;", 3, 23);
        bad("let 3 each 1;let 3 each 2;", 3, 17);
        bad("let 5 each 1;let 5", 3, 17);
        bad("let 0 each 1;let 5 each 1;let 0 each 1;", 3, 30);
        good("never 3;never 4;", 2);
        good("let 3 each 1;let 4 each 1;", 2);
        good("never 3;let 3 each 2;", 2);
        good("let 3 each 2;never 3;", 2);
        told("never 3;let 3 each 2;", 3, 0);
        told("let 3 each 2;never 3;", 3, 0);
        // What an earlier text told is not told already.
        KeptPages x = new KeptPages();
        String text = "night 3;patience 4;clothes 5;never 1;let 2 each 3;";
        due("once", Checks.rights(x, text), 5);
        due("and once more", Checks.rights(x, text), 5);
        due("with a fault behind", Checks.rights(x, text.concat("x")), -11);
        due("and without", Checks.rights(x, text), 5);
    }

    private static void faultFour() {
        doc.says("4 a P again in its clause (at its first).");
        bad("clothes 7,7;", 4, 10);
        bad("clothes 7,8,07;", 4, 12);
        bad("clothes 0,59,0;", 4, 13);
        bad("clothes 0,59, 059;", 4, 14);
        good("clothes 0,32;", 1);
        good("clothes 31,32,0,59;", 1);
        told("clothes 0,32;", 8, 2);
    }

    private static void let() {
        doc.says("A LOOK is let, if its DOOR is not never, and was not knocked at (by a LOOK of any KIND, HOLES too) less than "
            + "let hours ago.");
        for (int kind = 0; kind <= 2; kind++) {
            KeptPages x = pages(0, 0, 1, 2);
            Checks.rights(x, "let 0 each 99;let 1 each 1;never 2;");
            due("never", x.look(3, kind, 1, NONE), NOT);
            due("at 0", x.look(0, kind, 1, NONE), 0);
            due("at 0 again", x.look(0, kind, 1, NONE), NOT);
            due("another page of the door", x.look(1, kind, 1, NONE), NOT);
            due("another door", x.look(2, kind, 1, NONE), 1);
            due("that again", x.look(2, kind, 1, NONE), NOT);
            x.go(1);
            due("one hour ago, each 1", x.look(2, kind, 1, NONE), 2);
            goTo(x, 98);
            due("98 hours ago", x.look(1, kind, 1, NONE), NOT);
            x.take(0);
            due("98 hours ago, a hole", x.look(1, kind, 1, NONE), NOT);
            x.go(1);
            // The looks that were refused meanwhile did not knock.
            due("99 hours ago", x.look(1, kind, 1, NONE), 3);
            due("just now by another page", x.look(0, kind, 1, NONE), NOT);
            due("never still", x.look(3, kind, 1, NONE), NOT);
        }
        KeptPages y = pages(0, 0);
        seen(y, 0, 0, 1);
        seen(y, 3, 1, 1);
        Checks.rights(y, "let 0 each 5;");
        due("the latest of two knocks counts", seen(y, 7, 0, 1), NOT);
        due("five after the latest", seen(y, 8, 0, 1), 2);
        Checks.rights(y, "never 0;let 0 each 1;");
        due("never has it", seen(y, 20, 0, 1), NOT);
        y.read();
        due("rights as at first", y.look(0, 0, 1, NONE), 3);
    }

    // ---- 3

    private static void whatItWas() {
        doc.section("======== 3 ");
        claims();
        claimsBetween();
        sure();
        could();
        states();
    }

    private static void claims() {
        doc.says("A VIEW CLAIMS the hours from its DATE (without: its own) to its own;");
        KeptPages x = pages(0, 1, 2, 3);
        dated(x, 10, 0, 1, 4);
        dated(x, 10, 1, 1, 10);
        dated(x, 10, 2, 1, NONE);
        dated(x, 10, 3, 1, 0);
        goTo(x, 12);
        int[][] want = {{3, NONE, NONE, NONE, 3}, {4, 0, NONE, NONE, 3}, {9, 0, NONE, NONE, 3}, {10, 0, 1, 2, 3},
            {11, NONE, NONE, NONE, NONE}, {0, NONE, NONE, NONE, 3}};
        for (int[] at : want) {
            for (int p = 0; p < 4; p++) {
                due("page " + p + " at " + at[0], x.sure(p, at[0]), at[1 + p]);
            }
        }
        gone(x, 12, 0);
        due("a gone one claims its own hour", x.sure(0, 12), 4);
        due("no hour before", x.sure(0, 11), NONE);
    }

    private static void claimsBetween() {
        doc.says("two VIEWS side by side of a PAGE (none between) that are ALIKE and at most patience apart CLAIM all hours "
            + "between them, too (as in the first one).");
        for (int patience : new int[] {1, 2, 24, 999}) {
            KeptPages x = pages(0, 1);
            Checks.rights(x, "patience " + patience + ";");
            seen(x, 1, 0, 1);
            seen(x, 1, 1, 1);
            seen(x, 1 + patience, 0, 1);
            seen(x, 2 + patience, 1, 1);
            for (int t = 2; t <= patience; t += Math.max(1, patience - 2)) {
                due("patience apart, at " + t, x.sure(0, t), 0);
                due("one more apart, at " + t, x.sure(1, t), NONE);
            }
            due("the first", x.sure(0, 1), 0);
            due("the second, its own hour", x.sure(0, 1 + patience), 2);
            due("one more apart, the last hour between", x.sure(1, 1 + patience), NONE);
            due("the second of the other", x.sure(1, 2 + patience), 3);
            due("none before", x.sure(0, 0), NONE);
        }
        KeptPages y = pages(0);
        Checks.rights(y, "patience 0;");
        seen(y, 0, 0, 1);
        seen(y, 2, 0, 1);
        due("no patience", y.sure(0, 1), NONE);
        betweenOthers();
    }

    private static void betweenOthers() {
        KeptPages x = pages(0);
        seen(x, 0, 0, 1);
        seen(x, 5, 0, 2);
        seen(x, 10, 0, 1);
        due("one between", x.sure(0, 3), NONE);
        due("one between, behind it", x.sure(0, 7), NONE);
        x.take(1);
        due("a hole is none between", x.sure(0, 3), 0);
        due("a hole is none between, at its hour", x.sure(0, 5), 0);
        KeptPages y = pages(0, 1);
        seen(y, 0, 0, 1);
        seen(y, 5, 1, 2);
        seen(y, 10, 0, 1);
        due("another page's is none between", y.sure(0, 7), 0);
        gone(y, 11, 0);
        gone(y, 15, 0);
        due("gone both", y.sure(0, 13), 3);
        KeptPages z = pages(0);
        seen(z, 0, 0, 1);
        seen(z, 24, 0, 1);
        seen(z, 48, 0, 1);
        due("as in the first of the two", z.sure(0, 30), 1);
        Checks.rights(z, "patience 48;");
        due("side by side alone", z.sure(0, 30), 1);
    }

    private static void sure() {
        doc.says("At an hour t (0 .. NOW) a PAGE is SURE as in the first VIEW that CLAIMS it, if all that do are ALIKE; if they "
            + "are not, they QUARREL.");
        KeptPages x = pages(0);
        due("0 of 0", x.sure(0, 0), NONE);
        due("1 of 0", x.sure(0, 1), OUTSIDE);
        due("-1", x.sure(0, -1), OUTSIDE);
        seen(x, 10, 0, 1);
        dated(x, 20, 0, 1, 8);
        dated(x, 30, 0, 2, 10);
        due("at now", x.sure(0, 30), 2);
        due("after now", x.sure(0, 31), OUTSIDE);
        due("before the first", x.sure(0, 9), 1);
        due("all three, one unlike", x.sure(0, 10), -2);
        due("two unlike", x.sure(0, 20), -2);
        due("one alone", x.sure(0, 21), 2);
        x.take(2);
        due("the first of two alike", x.sure(0, 10), 0);
        due("between", x.sure(0, 15), 0);
        due("the second at its hour", x.sure(0, 20), 1);
        KeptPages y = pages(0);
        seen(y, 4, 0, 0b01);
        dated(y, 6, 0, 0b11, 4);
        due("they quarrel", y.sure(0, 4), -2);
        Checks.rights(y, "clothes 1;");
        due("not but for clothes", y.sure(0, 4), 0);
    }

    private static void could() {
        doc.says("It COULD be as in a VIEW that is ALIKE to one that CLAIMS it, if they QUARREL; if none CLAIMS it, as in one "
            + "ALIKE to the last VIEW of an hour before t, or to the first of an hour after t.");
        KeptPages x = pages(0);
        seen(x, 5, 0, 1);
        seen(x, 8, 0, 2);
        dated(x, 20, 0, 4, 12);
        seen(x, 25, 0, 8);
        goTo(x, 30);
        // By hours, from each look's side; look 2 claims 12 to 20.
        int[][] want = {{0, 1, 0, 0, 0}, {4, 1, 0, 0, 0}, {6, 1, 1, 0, 0}, {7, 1, 1, 0, 0}, {9, 0, 1, 1, 0},
            {11, 0, 1, 1, 0}, {12, 0, 0, 2, 0}, {21, 0, 0, 1, 1}, {26, 0, 0, 0, 1}, {30, 0, 0, 0, 1}};
        for (int[] at : want) {
            for (int l = 0; l < 4; l++) {
                due("as in " + l + " at " + at[0], x.state(l, at[0]), at[1 + l]);
            }
        }
        KeptPages y = pages(0);
        seen(y, 0, 0, 1);
        seen(y, 5, 0, 2);
        seen(y, 6, 0, 4);
        dated(y, 9, 0, 1, 5);
        dated(y, 12, 0, 2, 7);
        due("a quarrel, alike to one that claims", y.state(0, 5), 1);
        due("a quarrel, itself", y.state(1, 5), 1);
        due("a quarrel, one that does not claim", y.state(2, 5), 0);
        due("a quarrel, alike to a later one", y.state(1, 8), 1);
        due("a quarrel beside its neighbour", y.state(2, 8), 0);
    }

    private static void states() {
        doc.says("STATE of a PAGE at t as in a VIEW of it: 2 (SURE as in one ALIKE to it), 1 (it COULD), 0 (not).");
        KeptPages x = pages(0);
        seen(x, 0, 0, 0b001);
        seen(x, 1, 0, 0b010);
        seen(x, 2, 0, 0b101);
        seen(x, 4, 0, 0b001);
        due("itself", x.state(0, 0), 2);
        due("alike to it, later", x.state(3, 0), 2);
        due("not", x.state(1, 0), 0);
        due("could", x.state(0, 3), 1);
        due("could as before", x.state(2, 3), 1);
        due("could not", x.state(1, 3), 0);
        Checks.rights(x, "clothes 2;");
        due("sure but for clothes", x.state(0, 3), 2);
        due("sure but for clothes, in these", x.state(2, 0), 2);
        due("not even so", x.state(1, 3), 0);
    }

    // ---- 4

    private static void wholes() {
        doc.section("======== 4 ");
        wholeRow();
        stoodAndCould();
        fewest();
        nearest();
        bothWays();
    }

    private static void wholeRow() {
        doc.says("THE WHOLE is a row of VIEWS, SEEN, of unlike PAGES (8 at most).");
        KeptPages x = Twins.full();
        due("eight places", x.count(5), 8);
        due("the ninth", x.part(8), FULL);
        x.take(3);
        due("a place is free", x.part(8), 8);
        due("of a page there", x.part(12), NOT);
        KeptPages y = pages(0, 1);
        seen(y, 0, 0, 0);
        gone(y, 0, 1);
        due("seen, though empty", y.part(0), 1);
        due("the same once more", y.part(0), NOT);
        due("gone", y.part(1), NOT);
        due("a row of one", y.whole(0), 0);
    }

    private static void stoodAndCould() {
        doc.says("It STOOD at t, if the STATE of each PAGE is 2 as in its VIEW; it COULD at t, if none is 0.");
        KeptPages x = pages(0, 1);
        Checks.rights(x, "patience 3;");
        seen(x, 0, 0, 1);
        seen(x, 3, 0, 1);
        seen(x, 3, 1, 1);
        seen(x, 6, 1, 1);
        seen(x, 7, 0, 2);
        x.part(0);
        x.part(2);
        due("the first hour", x.whole(0), 3);
        due("one hour", x.whole(1), 1);
        due("could at 0", x.whole(2), 0);
        Checks.rights(x, "patience 999;");
        due("the first hour in patience", x.whole(0), 3);
        due("one hour in patience", x.whole(1), 1);
        seen(x, 20, 1, 1);
        seen(x, 21, 0, 1);
        seen(x, 22, 0, 1);
        // Page 1 stood from 3 to 20 in patience, page 0 from 0 to 3 and from 21 on, by its date from 19 on.
        due("not yet more", x.whole(1), 1);
        dated(x, 23, 0, 1, 19);
        due("two spans of hours", x.whole(1), 3);
        due("the first of them", x.whole(0), 3);
        KeptPages y = pages(0, 1);
        dated(y, 0, 0, 1, 0);
        dated(y, 0, 1, 1, 0);
        y.part(0);
        y.part(1);
        due("at the hour 0", y.whole(0), 0);
        due("at one hour", y.whole(1), 1);
        KeptPages z = pages(0, 1);
        seen(z, 0, 0, 2);
        seen(z, 0, 1, 2);
        dated(z, 3000, 0, 1, 3000);
        dated(z, 3000, 1, 1, 3000);
        z.part(2);
        z.part(3);
        due("at the hour 3000 alone", z.whole(0), 3000);
        due("one hour alone", z.whole(1), 1);
        due("could from 1 on", z.whole(2), 1);
        z.wipe();
        z.part(2);
        z.part(1);
        due("never", z.whole(0), NONE);
        due("no hours", z.whole(1), 0);
        KeptPages w = pages(0, 1);
        seen(w, 0, 0, 1);
        seen(w, 1, 0, 2);
        seen(w, 1, 1, 1);
        seen(w, 2, 1, 2);
        dated(w, 3, 1, 3, 0);
        w.part(1);
        w.part(3);
        due("could at 2, in a quarrel", w.whole(2), 2);
        w.wipe();
        w.part(0);
        w.part(3);
        due("could at none", w.whole(2), NONE);
    }

    private static void fewest() {
        doc.says("THE FEWEST to leave: the least SET (by places in the row; first by number, then as a number) without which "
            + "the others STOOD at some t.");
        // Of three places one stood alone at 0, the first two at 1: to leave place 2 is fewer than places 0 and 1.
        KeptPages x = pages(0, 1, 2);
        Checks.rights(x, "patience 0;");
        seen(x, 0, 2, 1);
        seen(x, 1, 0, 1);
        seen(x, 1, 1, 1);
        x.part(1);
        x.part(2);
        x.part(0);
        due("first by number", x.whole(3), 4);
        // Then as a number, though the greater one comes by an earlier hour.
        KeptPages y = pages(0, 1);
        Checks.rights(y, "patience 0;");
        seen(y, 0, 0, 1);
        seen(y, 1, 1, 1);
        y.part(0);
        y.part(1);
        due("then as a number", y.whole(3), 1);
        y.wipe();
        y.part(1);
        y.part(0);
        due("by places, not by pages", y.whole(3), 1);
        due("nothing is left of one that stood", single(y), 0);
        eightPlaces();
    }

    private static int single(KeptPages x) {
        x.wipe();
        x.part(0);
        return x.whole(3);
    }

    private static void eightPlaces() {
        KeptPages x = pages(0, 1, 2, 3, 4, 5, 0, 1);
        Checks.rights(x, "patience 0;");
        for (int p = 0; p < 8; p++) {
            x.part(seen(x, p, p, 1));
        }
        due("seven of eight", x.whole(3), 0b01111111);
        for (int p = 0; p < 8; p++) {
            dated(x, 10 + p, p, 2, 0);
        }
        // At its own hour each quarrels now, so none is ever sure.
        due("all eight", x.whole(3), 255);
        due("none is 2", x.whole(5), 0);
        due("nearest at 0: eight are quarrels or could", x.whole(4), 0);
    }

    private static void nearest() {
        doc.says("NEAREST: the t at which most are 2; of like ones fewest are 0; of like ones the least.");
        KeptPages x = pages(0, 1, 2);
        Checks.rights(x, "patience 0;");
        seen(x, 1, 0, 1);
        seen(x, 1, 1, 2);
        seen(x, 3, 0, 1);
        seen(x, 3, 1, 1);
        seen(x, 5, 0, 1);
        x.part(0);
        x.part(3);
        // At 1 page 1 was another, at 3 both are 2, at 5 page 1 could be.
        due("most are 2", x.whole(4), 3);
        due("both", x.whole(5), 2);
        x.take(3);
        x.part(1);
        due("as it was at 1", x.whole(4), 1);
        KeptPages w = pages(0, 1, 2);
        Checks.rights(w, "patience 0;");
        seen(w, 2, 0, 1);
        seen(w, 2, 1, 1);
        seen(w, 2, 2, 2);
        seen(w, 4, 2, 1);
        w.part(0);
        w.part(1);
        w.part(3);
        // At 2 two are 2 and one is 0; at 4 one is 2 and none is 0.
        due("most are 2, though one is 0", w.whole(4), 2);
        due("two", w.whole(5), 2);
        KeptPages y = pages(0, 1);
        Checks.rights(y, "patience 0;");
        seen(y, 1, 0, 1);
        seen(y, 1, 1, 2);
        seen(y, 3, 0, 1);
        seen(y, 5, 1, 1);
        y.part(0);
        y.part(3);
        // At 1 look 3 is 0; at 3 and at 5 one is 2 and the other could be.
        due("fewest are 0, then the least", y.whole(4), 3);
        due("one is 2", y.whole(5), 1);
        KeptPages z = pages(0);
        seen(z, 5, 0, 1);
        dated(z, 8, 0, 2, 3);
        goTo(z, 20);
        z.part(0);
        due("none is 2: could at 0", z.whole(4), 0);
        due("none", z.whole(5), 0);
        due("to leave the one", z.whole(3), 1);
        dated(z, 21, 0, 3, 0);
        due("0 at all hours but its own", z.whole(4), 5);
        seen(z, 22, 0, 1);
        due("sure at last", z.whole(4), 22);
    }

    private static void bothWays() {
        doc.says("BOTH WAYS from a to b: of a SET of PAGES the least m (a .. b) so that each has a VIEW from a to m and one from "
            + "m and 1 to b, all VIEWS of it from a to b ALIKE.");
        KeptPages x = pages(0, 1, 2);
        seen(x, 0, 0, 2);
        seen(x, 2, 0, 1);
        seen(x, 5, 0, 1);
        seen(x, 5, 1, 1);
        seen(x, 6, 1, 1);
        seen(x, 8, 0, 2);
        goTo(x, 10);
        due("views at a and b", x.bothWays(1, 2, 5), 2);
        due("a before the first", x.bothWays(1, 1, 5), 2);
        due("a behind the first", x.bothWays(1, 3, 5), NONE);
        due("b ahead of the second", x.bothWays(1, 2, 4), NONE);
        due("unlike ahead of a", x.bothWays(1, 0, 5), NONE);
        due("unlike at b", x.bothWays(1, 2, 8), NONE);
        due("unlike behind b", x.bothWays(1, 2, 7), 2);
        due("one hour apart", x.bothWays(2, 5, 6), 5);
        due("one hour", x.bothWays(2, 5, 5), NONE);
        due("the last hour", x.bothWays(2, 6, 6), NONE);
        due("m would be the last of page 0", x.bothWays(3, 2, 7), NONE);
        due("never seen", x.bothWays(4, 0, 10), NONE);
        due("of none the least m", x.bothWays(0, 4, 4), 4);
        due("of none at 0", x.bothWays(0, 0, 10), 0);
        due("of none at now", x.bothWays(0, 10, 10), 10);
        seen(x, 11, 1, 1);
        seen(x, 12, 0, 2);
        due("all of three alike", x.bothWays(2, 5, 11), 5);
        due("both pages", x.bothWays(3, 6, 12), 8);
        due("both pages, the last of one at m", x.bothWays(3, 6, 11), NONE);
        KeptPages y = pages(0);
        gone(y, 0, 0);
        gone(y, 1, 0);
        due("gone both ways", y.bothWays(1, 0, 1), 0);
    }

    // ---- 5

    private static void ratesAndNights() {
        doc.section("======== 5 ");
        rate();
        night();
        plans();
        worth();
        bestPlan();
    }

    private static void rate() {
        doc.says("RATE of a PAGE: VIEWS side by side that are not ALIKE, times 1000 / hours from its first to its last VIEW "
            + "(NONE: less than two VIEWS, or no hours).");
        KeptPages x = pages(0);
        due("no view", x.rate(0), NONE);
        seen(x, 0, 0, 1);
        due("one view", x.rate(0), NONE);
        barred(x, 1, 0);
        due("a barred one is none", x.rate(0), NONE);
        seen(x, 2, 0, 1);
        due("two alike", x.rate(0), 0);
        gone(x, 3, 0);
        due("one change in three", x.rate(0), 333);
        seen(x, 4, 0, 1);
        due("two in four", x.rate(0), 500);
        x.take(3);
        due("none with the hole", x.rate(0), 0);
        x.take(2);
        x.take(4);
        due("one view again", x.rate(0), NONE);
        x.take(0);
        due("no view again", x.rate(0), NONE);
        KeptPages y = pages(0);
        for (int t = 0; t < 100; t++) {
            seen(y, t, 0, t % 2);
        }
        due("99 in 99", y.rate(0), 1000);
        KeptPages z = pages(0);
        seen(z, 0, 0, 1);
        seen(z, 3000, 0, 2);
        due("one in 3000", z.rate(0), 0);
    }

    private static void night() {
        doc.says("A NIGHT has knocks 0 to night less 1.");
        for (int night : new int[] {1, 2, 11, 12}) {
            KeptPages x = pages(0, 0);
            int apart = Math.max(1, night - 1);
            Checks.rights(x, "night " + night + ";let 0 each " + apart + ";");
            due("night " + night + ", worth", x.plan(3, NONE), night == 1 ? 1000 : 2000);
            due("night " + night + ", first knock", x.plan(3, 0), 0);
            due("night " + night + ", last knock", x.plan(3, night - 1), night == 1 ? 0 : 1);
            for (int i = night; i < 12; i++) {
                due("night " + night + ", knock " + i, x.plan(3, i), NONE);
            }
            Checks.rights(x, "night " + night + ";let 0 each " + night + ";");
            due("night " + night + ", one more apart", x.plan(3, NONE), 1000);
        }
    }

    private static void plans() {
        doc.says("A PLAN of a SET of PAGES (7 at most): in each knock one of them or none, each once at most, DOORS of never "
            + "not, two of one DOOR let or more knocks apart.");
        KeptPages x = pages(0, 1, 2, 3, 4, 5, 0, 1, 2, 3, 4, 5);
        due("seven", x.plan(0b111111100000, NONE), 7000);
        due("eight", x.plan(0b111111110000, NONE), OUTSIDE);
        due("twelve", x.plan(0b111111111111, 0), OUTSIDE);
        for (int i = 0; i < 8; i++) {
            due("knock " + i + " of seven", x.plan(0b111111100000, i), i < 7 ? 5 + i : NONE);
        }
        due("each once", x.plan(1, 1), NONE);
        due("one alone", x.plan(1, NONE), 1000);
        due("none", x.plan(0, NONE), 0);
        Checks.rights(x, "never 0;");
        due("never", x.plan(0b1000001, NONE), 0);
        due("never and another", x.plan(0b1000011, 0), 1);
        due("never is left out of seven", x.plan(0b1111111, NONE), 5000);
        for (int let = 1; let <= 7; let++) {
            Checks.rights(x, "let 0 each " + let + ";");
            for (int i = 0; i < 8; i++) {
                int want = i == 0 ? 0 : i == let ? 6 : NONE;
                due("let " + let + ", knock " + i, x.plan(0b1000001, i), want);
            }
        }
        Checks.rights(x, "let 0 each 8;");
        due("let 8 in a night of 8", x.plan(0b1000001, NONE), 1000);
        Checks.rights(x, "let 0 each 2;");
        int[] between = {0, 1, 6};
        for (int i = 0; i < 3; i++) {
            due("another door between, knock " + i, x.plan(0b1000011, i), between[i]);
        }
    }

    private static void worth() {
        doc.says("WORTH of a PAGE: RATE (NONE: 0) times hours from its last VIEW to NOW; 1000 without VIEWS.");
        KeptPages x = pages(0, 1);
        due("without", x.plan(1, NONE), 1000);
        barred(x, 0, 0);
        due("barred is without", x.plan(1, NONE), 1000);
        seen(x, 1, 0, 1);
        x.go(5);
        due("one view", x.plan(1, NONE), 0);
        seen(x, 9, 0, 2);
        due("no hours", x.plan(1, NONE), 0);
        x.go(1);
        due("one hour", x.plan(1, NONE), 125);
        goTo(x, 3000);
        due("2991 hours", x.plan(1, NONE), 125 * 2991);
        due("and another", x.plan(3, NONE), 125 * 2991 + 1000);
        x.take(2);
        due("one view again", x.plan(1, NONE), 0);
        x.take(1);
        due("without again", x.plan(1, NONE), 1000);
        KeptPages y = pages(0);
        seen(y, 0, 0, 1);
        seen(y, 1, 0, 2);
        goTo(y, 3000);
        due("the dearest page", y.plan(1, NONE), 2999000);
    }

    private static void bestPlan() {
        doc.says("THE BEST PLAN: the most WORTH; of like ones the first, knock by knock (PAGES by numbers, then none).");
        KeptPages x = pages(0, 1, 2);
        seen(x, 0, 0, 1);
        Checks.rights(x, "night 2;");
        due("the most", x.plan(7, NONE), 2000);
        due("page 1 ahead of page 0", x.plan(7, 0), 1);
        due("then page 2", x.plan(7, 1), 2);
        due("worth nothing, ahead of none", x.plan(1, 0), 0);
        due("then none", x.plan(1, 1), NONE);
        Checks.rights(x, "night 3;");
        int[] all = {0, 1, 2};
        for (int i = 0; i < 3; i++) {
            due("all by numbers, knock " + i, x.plan(7, i), all[i]);
        }
        // Two of door 0 need knocks 0 and 2, so page 0 of door 1 has knock 1.
        KeptPages y = pages(1, 0, 0);
        Checks.rights(y, "night 3;let 0 each 2;");
        int[] want = {1, 0, 2};
        for (int i = 0; i < 3; i++) {
            due("the first that has the most, knock " + i, y.plan(7, i), want[i]);
        }
        Checks.rights(y, "night 4;let 0 each 2;");
        int[] roomy = {0, 1, NONE, 2};
        for (int i = 0; i < 4; i++) {
            due("the first of like ones, knock " + i, y.plan(7, i), roomy[i]);
        }
        planWithGap();
    }

    /** The first of many that are worth three pages leaves a knock out, for no page may have it. */
    private static void planWithGap() {
        KeptPages x = pages(0, 0, 1, 1);
        Checks.rights(x, "night 4;let 0 each 3;let 1 each 2;");
        int[] gap = {0, 2, NONE, 1};
        for (int i = 0; i < 4; i++) {
            due("a knock left out, knock " + i, x.plan(15, i), gap[i]);
        }
        due("worth three", x.plan(15, NONE), 3000);
    }

    // ---- 6

    private static void programsAndLikeness() {
        doc.section("======== 6 ");
        programTexts();
        programLinks();
        trap();
        likeness();
        moved();
    }

    private static void goodProgram(String text, int clauses, int links) {
        KeptPages x = pages(0);
        due("\"" + text + "\"", Checks.program(x, 0, text), clauses);
        due("\"" + text + "\" fault()", x.fault(), NONE);
        due("\"" + text + "\" links", x.links(0, 200, NONE), links);
    }

    private static void badProgram(String text, int fault, int place) {
        KeptPages x = pages(0);
        Checks.program(x, 0, "row 7 by 2 times 4;");
        due("\"" + text + "\"", Checks.program(x, 0, text), -10 - fault);
        due("\"" + text + "\" fault()", x.fault(), place);
        due("\"" + text + "\" leaves the last", x.links(0, 200, 3), 13);
        due("\"" + text + "\" leaves four", x.links(0, 200, NONE), 4);
        due("\"" + text + "\" makes no trap", x.more(0, 200), 0);
    }

    private static void programTexts() {
        doc.says("A PROGRAM of a PAGE is a text (120 bytes at most, as read; none at first): clause = 'link' N ';'   "
            + "'row' N 'by' N 'times' N ';'   'ever' N 'by' N ';' (N 0 .. 999; 8 clauses at most: FAULT 5 at the ninth's "
            + "first letter; 1, 2 as above).");
        due("none at first", pages(0).links(0, 200, NONE), 0);
        due("none at first, no more", pages(0).more(0, 0), 0);
        goodProgram("", 0, 0);
        goodProgram("link 1;" + " ".repeat(113), 1, 1);
        badProgram("link 1" + " ".repeat(114), 1, 120);
        KeptPages x = pages(0);
        Checks.feed(x, "link 1;" + " ".repeat(114));
        due("121 bytes", x.program(0), NOT);
        due("121 bytes, no program", x.links(0, 200, NONE), 0);
        programBounds("link ", ";", 1);
        programBounds("row ", " by 1 times 1;", 1);
        programBounds("row 1 by ", " times 1;", 1);
        programBounds("ever ", " by 1;", 200);
        programBounds("ever 1 by ", ";", 200);
        goodProgram("row 1 by 1 times 0;", 1, 0);
        goodProgram("row 1 by 1 times 999;", 1, 200);
        badProgram("row 1 by 1 times 1000;", 2, 17);
        badProgram("row 1 by 1 times 0001;", 2, 17);
        String eight = "link 1;".repeat(8);
        goodProgram(eight, 8, 8);
        goodProgram(eight + "   ", 8, 8);
        badProgram(eight + "link 1;", 5, 56);
        badProgram(eight + "  row 1 by 1 times 1;", 5, 58);
        badProgram(eight + " ever", 5, 57);
        badProgram(eight + "linked 1;", 1, 56);
        badProgram(eight + "x", 1, 56);
        badProgram(eight + ";", 1, 56);
        badProgram(eight + "7", 1, 56);
        badProgram("link 1;".repeat(7) + "link 1000;link 1;", 2, 54);
        badProgram("link 1;".repeat(7) + "link 1 link 1;", 1, 56);
        wrongPrograms();
    }

    private static void wrongPrograms() {
        badProgram(";", 1, 0);
        badProgram("link 1;;", 1, 7);
        badProgram("7;", 1, 0);
        badProgram("night 3;", 1, 0);
        badProgram("link", 1, 4);
        badProgram("link ;", 1, 5);
        badProgram("link 1", 1, 6);
        badProgram("link 1,2;", 1, 6);
        badProgram("row 1 by 2;", 1, 10);
        badProgram("row 1 times 2;", 1, 6);
        badProgram("row 1 by times 2;", 1, 9);
        badProgram("row 1 by 2 times;", 1, 16);
        badProgram("row 1 by 2 times 3", 1, 18);
        badProgram("ever 1;", 1, 6);
        badProgram("ever 1 by;", 1, 9);
        badProgram("ever 1 by 2", 1, 11);
        badProgram("ever 1 by 2 times 3;", 1, 12);
        badProgram("ever1b y2;", 1, 5);
        goodProgram("ever1by2;row3by4times5;link6;", 3, 200);
        goodProgram("link 1;link 1;", 2, 2);
    }

    private static void programBounds(String ahead, String behind, int links) {
        goodProgram(ahead + "0" + behind, 1, links);
        goodProgram(ahead + "999" + behind, 1, links);
        badProgram(ahead + "1000" + behind, 2, ahead.length());
        badProgram(ahead + "0000" + behind, 2, ahead.length());
    }

    private static void programLinks() {
        doc.says("With a PURSE of so many (0 .. 200) it tells LINKS, one after the other: N; N, N and by, and so on, so many "
            + "times; the like without end.");
        KeptPages x = pages(0);
        Checks.program(x, 0, "link 999;row 5 by 0 times 2;row 6 by 1 times 0;row 7 by 3 times 1;ever 999 by 999;link 1;");
        int[] want = {999, 5, 5, 7, 999, 1998, 2997};
        for (int i = 0; i < want.length; i++) {
            due("link " + i, x.links(0, 200, i), want[i]);
            due("with a purse just so", x.links(0, i + 1, i), want[i]);
            due("with a purse less", x.links(0, i, i), NONE);
            due("how many with a purse of " + i, x.links(0, i, NONE), i);
        }
        due("the 200th", x.links(0, 200, 199), 999 + 999 * 195);
        due("the 201st", x.links(0, 200, 200), NONE);
        due("purse -1", x.links(0, -1, NONE), OUTSIDE);
        due("purse 201", x.links(0, 201, NONE), OUTSIDE);
        Checks.program(x, 0, "row 1 by 1 times 199;link 500;link 501;");
        due("199 and one", x.links(0, 200, 199), 500);
        due("no room for the last", x.links(0, 200, NONE), 200);
        Checks.program(x, 0, "row 1 by 1 times 198;link 500;");
        due("199 in all", x.links(0, 200, NONE), 199);
        due("no 200th", x.links(0, 200, 199), NONE);
        Checks.program(x, 0, "ever 0 by 0;");
        due("without end, all alike", x.links(0, 200, 199), 0);
        Checks.program(x, 0, "ever 999 by 999;");
        due("the greatest link", x.links(0, 200, 199), 999 * 200);
    }

    private static void trap() {
        doc.says("TRAP: it has an ever.");
        KeptPages x = pages(0);
        Checks.program(x, 0, "row 1 by 0 times 999;");
        due("a long row is none", x.more(0, 200), 1);
        Checks.program(x, 0, "row 1 by 0 times 999;ever 1 by 0;");
        due("an ever not come to", x.more(0, 0), 2);
        Checks.program(x, 0, "ever 1 by 0;".repeat(8));
        due("eight", x.more(0, 200), 2);
        x.program(0);
        due("none any more", x.more(0, 200), 0);
    }

    private static void likeness() {
        doc.says("LIKENESS of two SEEN LOOKS: PIECES in both times 100 / those in one or both, but for CLOTHES (100: there are "
            + "none).");
        KeptPages x = pages(0);
        seen(x, 0, 0, ALL);
        seen(x, 1, 0, 0);
        seen(x, 2, 0, 1);
        seen(x, 3, 0, 1L << 59);
        seen(x, 4, 0, ALL ^ 1);
        due("all and all", x.likeness(0, 0), 100);
        due("all and none", x.likeness(0, 1), 0);
        due("none and none", x.likeness(1, 1), 100);
        due("1 of 60", x.likeness(0, 2), 1);
        due("59 of 60", x.likeness(0, 4), 98);
        due("apart", x.likeness(2, 3), 0);
        Checks.rights(x, "clothes 0,59;");
        due("there are none", x.likeness(2, 3), 100);
        due("none and clothes", x.likeness(1, 3), 100);
        due("but for clothes", x.likeness(0, 4), 100);
        due("all and clothes", x.likeness(0, 3), 0);
    }

    private static void moved() {
        doc.says("MOVED is a PAGE whose last VIEW is GONE and that has a SEEN one, to that other PAGE whose last VIEW, SEEN, has "
            + "the greatest LIKENESS to its own last SEEN one, if that is 60 or more (of like ones the least PAGE).");
        KeptPages x = pages(0, 1, 2);
        seen(x, 0, 0, 0b11111);
        seen(x, 0, 1, 0b00111);
        due("not gone", x.moved(0), NONE);
        gone(x, 1, 0);
        due("60", x.moved(0), 1);
        seen(x, 1, 2, 0b11100);
        due("of like ones the least", x.moved(0), 1);
        seen(x, 2, 2, 0b01111);
        due("the greatest", x.moved(0), 2);
        barred(x, 3, 2);
        due("barred is not the last view", x.moved(0), 2);
        gone(x, 4, 2);
        due("not to a gone one", x.moved(0), 1);
        due("from another", x.moved(2), 1);
        seen(x, 5, 0, 0b11111);
        due("seen again", x.moved(0), NONE);
        due("to it from another", x.moved(2), 0);
        x.take(6);
        due("not gone by a hole", x.moved(2), NONE);
        x.take(7);
        due("gone again with a hole behind", x.moved(0), 2);
        KeptPages y = pages(0, 1);
        seen(y, 0, 0, (1L << 22) - 1);
        gone(y, 1, 0);
        seen(y, 1, 1, (1L << 13) - 1);
        due("13 of 22 are 59", y.likeness(0, 2), 59);
        due("59", y.moved(0), NONE);
        seen(y, 2, 1, (1L << 14) - 1);
        due("14 of 22 are 63", y.moved(0), 1);
        KeptPages z = pages(0, 1);
        gone(z, 0, 0);
        seen(z, 0, 1, 0);
        due("no seen one", z.moved(0), NONE);
        seen(z, 1, 0, 3);
        seen(z, 2, 0, 0);
        gone(z, 3, 0);
        gone(z, 4, 0);
        due("its own last seen one", z.moved(0), 1);
        due("alone", aloneMoved(), NONE);
    }

    private static int aloneMoved() {
        KeptPages x = pages(0);
        seen(x, 0, 0, 1);
        gone(x, 1, 0);
        return x.moved(0);
    }

    // ---- 7

    private static void housesAndShown() {
        doc.section("======== 7 ");
        houses();
        wordsSent();
        mended();
        shown();
        since();
        first();
        nowhere();
    }

    private static void houses() {
        doc.says("HOUSES 0 to 2 keep PIECES: those of each LOOK come to all three.");
        KeptPages x = pages(0, 1);
        seen(x, 0, 0, 1L << 59 | 1);
        for (int house = 0; house < 3; house++) {
            due("house " + house, x.count(7 + house), 2);
        }
        due("house 3", x.lose(3, 0), UNKNOWN);
        due("house -1", x.lose(-1, 0), UNKNOWN);
        seen(x, 1, 0, 0b11);
        gone(x, 2, 0);
        due("kept once", x.count(7), 3);
        x.take(0);
        due("kept with the hole", x.count(8), 3);
        x.look(1, 1, ALL, NONE);
        x.go(1);
        x.look(1, 2, ALL, NONE);
        due("gone and barred bring none", x.count(9), 3);
        doc.says("A HOUSE may LOSE one.");
        due("house 0 loses 59", x.lose(0, 59), 1);
        due("house 0", x.count(7), 2);
        due("house 1", x.count(8), 3);
        due("house 2", x.count(9), 3);
        due("house 2 loses 0", x.lose(2, 0), 1);
        due("it has it not", x.lose(2, 0), NOT);
        due("it never had it", x.lose(2, 58), NOT);
        seen(x, 4, 0, 1L << 59);
        due("a look brings it again", x.count(7), 3);
    }

    private static void wordsSent() {
        doc.says("They CHECK in rows of 64 places (PIECES, and four that none has): a word is sent for the row; if both differ "
            + "in it, and it has more than one place, for each half likewise: WORDS are all that are sent.");
        KeptPages x = pages(0);
        due("both empty", x.words(0, 1), 1);
        seen(x, 0, 0, ALL);
        due("both full", x.words(0, 1), 1);
        for (int piece : new int[] {0, 1, 31, 32, 58, 59}) {
            x.lose(0, piece);
            due("piece " + piece, x.words(0, 1), 13);
            due("piece " + piece + ", the other way", x.words(1, 0), 13);
            due("the others do not differ", x.words(1, 2), 1);
            x.mend();
        }
        int[][] pairs = {{0, 1, 13}, {1, 2, 15}, {3, 4, 17}, {7, 8, 19}, {15, 16, 21}, {31, 32, 23}, {0, 59, 23},
            {58, 59, 13}, {56, 59, 15}};
        for (int[] pair : pairs) {
            x.lose(0, pair[0]);
            x.lose(1, pair[1]);
            due("pieces " + pair[0] + " and " + pair[1], x.words(0, 1), pair[2]);
            x.mend();
        }
        for (int piece = 0; piece < 60; piece++) {
            x.lose(1, piece);
        }
        due("all 60", x.words(0, 1), 121);
    }

    private static void mended() {
        doc.says("MENDED: each HOUSE has what any has.");
        KeptPages x = pages(0);
        seen(x, 0, 0, 0b1111);
        x.lose(0, 0);
        x.lose(1, 0);
        x.lose(1, 1);
        for (int house = 0; house < 3; house++) {
            x.lose(house, 3);
        }
        x.mend();
        for (int house = 0; house < 3; house++) {
            due("house " + house, x.count(7 + house), 3);
            due("no house has 3", x.lose(house, 3), NOT);
        }
        due("none differ", x.words(0, 1), 1);
        due("house 0 has 0 again", x.lose(0, 0), 1);
        due("house 1 has 1 again", x.lose(1, 1), 1);
        due("one is lost", x.count(10), 1);
        for (int keeper = 0; keeper < 3; keeper++) {
            KeptPages y = pages(0);
            seen(y, 0, 0, 1L << 59);
            y.lose((keeper + 1) % 3, 59);
            y.lose((keeper + 2) % 3, 59);
            due("house " + keeper + " alone has it", y.count(10), 0);
            y.mend();
            due("all have it, " + keeper, y.count(7) + y.count(8) + y.count(9), 3);
        }
    }

    private static void shown() {
        doc.says("SHOWN as of t: the last VIEW of a PAGE not after t; AGE: t less its hour.");
        KeptPages x = pages(0);
        seen(x, 5, 0, 1);
        dated(x, 9, 0, 2, 2);
        goTo(x, 12);
        due("before the first, though dated", x.shown(0, 4, 0), NONE);
        due("at the first", x.shown(0, 5, 0), 0);
        due("its age", x.shown(0, 5, 1), 0);
        due("just ahead of the second", x.shown(0, 8, 0), 0);
        due("age 3", x.shown(0, 8, 1), 3);
        due("at the second", x.shown(0, 9, 0), 1);
        due("at now", x.shown(0, 12, 0), 1);
        due("age at now", x.shown(0, 12, 1), 3);
        x.take(1);
        due("without the hole", x.shown(0, 12, 1), 7);
    }

    private static void since() {
        doc.says("A PAGE says a PIECE, if its last VIEW has it; SINCE: at the latest the DATE or hour of the first of the row of "
            + "VIEWS at the end that all have it; at the earliest the hour after the VIEW ahead of that (0 without; not above "
            + "the latest).");
        KeptPages x = pages(0);
        due("no view", x.since(0, 0, 0), NOT);
        seen(x, 4, 0, 1);
        due("0 without one ahead", x.since(0, 0, 0), 0);
        due("its hour", x.since(0, 0, 1), 4);
        seen(x, 6, 0, 0b11);
        due("the first of the row", x.since(0, 0, 1), 4);
        due("the hour after the one ahead", x.since(0, 1, 0), 5);
        due("its hour", x.since(0, 1, 1), 6);
        dated(x, 9, 0, 0b101, 7);
        due("not any more", x.since(0, 1, 0), NOT);
        due("the hour after is the date", x.since(0, 2, 0), 7);
        due("the date", x.since(0, 2, 1), 7);
        dated(x, 12, 0, 0b1101, 8);
        due("not above the latest", x.since(0, 3, 0), 8);
        due("the date, before the one ahead", x.since(0, 3, 1), 8);
        dated(x, 13, 0, 0b11101, 0);
        due("date 0, earliest", x.since(0, 4, 0), 0);
        due("date 0, latest", x.since(0, 4, 1), 0);
        due("dates of later ones do not count", x.since(0, 0, 1), 4);
        KeptPages y = pages(0);
        dated(y, 0, 0, 1L << 59, 0);
        due("from the hour 0", y.since(0, 59, 0), 0);
        due("at the hour 0", y.since(0, 59, 1), 0);
    }

    private static void first() {
        doc.says("FIRST to say a PIECE may be a PAGE of which some VIEW has it, if by its first such VIEW (latest and earliest "
            + "likewise) its earliest is not above the least latest of all.");
        KeptPages x = pages(0, 1, 2);
        due("nobody", x.first(0), 0);
        seen(x, 3, 1, 0);
        seen(x, 4, 2, 0);
        seen(x, 4, 0, 1);
        due("one", x.first(0), 1);
        seen(x, 9, 1, 1);
        seen(x, 9, 2, 1);
        // The least latest is 4; page 1's earliest is 4, page 2's is 5.
        due("just not above, and just above", x.first(0), 0b011);
        seen(x, 10, 0, 0);
        due("some view is enough", x.first(0), 0b011);
        seen(x, 11, 0, 1);
        due("by its first such view", x.first(0), 0b011);
        x.take(2);
        due("by the next with the hole", x.first(0), 0b110);
        dated(x, 20, 0, 1, 0);
        due("not by a later date", x.first(0), 0b110);
        due("another piece", x.first(59), 0);
        KeptPages y = pages(0, 1);
        seen(y, 5, 0, 0);
        dated(y, 7, 0, 1, 2);
        dated(y, 7, 1, 1, 3);
        due("earliest not above its latest", y.first(0), 0b11);
    }

    private static void nowhere() {
        doc.says("NOWHERE are PIECES of some VIEW that no PAGE says.");
        KeptPages x = pages(0, 1);
        due("none", x.nowhere(), 0);
        seen(x, 0, 0, ALL);
        seen(x, 0, 1, 1L << 59);
        due("all are said", x.nowhere(), 0);
        seen(x, 1, 0, 0);
        due("all but 59", x.nowhere(), ALL ^ 1L << 59);
        gone(x, 2, 1);
        due("all", x.nowhere(), ALL);
        barred(x, 3, 1);
        x.take(1);
        due("the other has 59 still", x.nowhere(), ALL);
        x.take(0);
        due("of no view", x.nowhere(), 0);
    }
}
