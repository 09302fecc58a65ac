/** Each promise by itself: ordinary inputs, the edges that the document names, wrong inputs. */
public final class PromiseTests extends Scene {
    private static final Checks check = new Checks();

    private static void due(String call, long got, long want) {
        check.due(call, got, want);
    }

    public static void main(String[] args) {
        pagesAndLooks();
        rights();
        whatItWas();
        wholes();
        ratesAndNights();
        linksAndLikeness();
        houses();
        shown();
        check.end("PromiseTests");
    }

    private static void pagesAndLooks() {
        newObject();
        go();
        page();
        look();
        lookLet();
        take();
        told();
        pieces();
        view();
        count();
    }

    // Promise 1
    private static void newObject() {
        due("NONE", KeptPages.NONE, -1);
        due("UNKNOWN", KeptPages.UNKNOWN, -1001);
        due("OUTSIDE", KeptPages.OUTSIDE, -1002);
        due("NOT", KeptPages.NOT, -1003);
        due("FULL", KeptPages.FULL, -1004);
        KeptPages x = new KeptPages();
        for (int what = 0; what <= 10; what++) {
            due("1 count(" + what + ")", x.count(what), 0);
        }
        for (int door = 0; door < 6; door++) {
            due("1 right(" + door + ")", x.right(door), 1);
        }
        due("1 right(6)", x.right(6), 8);
        due("1 right(7)", x.right(7), 24);
        due("1 right(8)", x.right(8), 0);
        due("1 fault()", x.fault(), NONE);
        due("1 nowhere()", x.nowhere(), 0);
        due("1 whole(0)", x.whole(0), NOT);
    }

    // Promise 2
    private static void go() {
        KeptPages x = new KeptPages();
        due("2 go(0)", x.go(0), 0);
        due("2 go(500)", x.go(500), 500);
        due("2 go(501)", x.go(501), OUTSIDE);
        due("2 go(-1)", x.go(-1), OUTSIDE);
        due("2 go(least)", x.go(LEAST), OUTSIDE);
        due("2 go(most)", x.go(MOST), OUTSIDE);
        goTo(x, 2999);
        due("2 go(2) at 2999", x.go(2), NOT);
        due("2 go(501) at 2999", x.go(501), OUTSIDE);
        due("2 NOW", x.count(0), 2999);
        due("2 go(1) at 2999", x.go(1), 3000);
        due("2 go(0) at 3000", x.go(0), 3000);
        due("2 go(1) at 3000", x.go(1), NOT);
    }

    // Promise 3
    private static void page() {
        KeptPages x = new KeptPages();
        due("3 page(-1)", x.page(-1), UNKNOWN);
        due("3 page(6)", x.page(6), UNKNOWN);
        for (int p = 0; p < 12; p++) {
            due("3 page", x.page(p % 6), p);
        }
        due("3 page, the 13th", x.page(0), FULL);
        due("3 page(6) when full", x.page(6), UNKNOWN);
        due("3 PAGES", x.count(1), 12);
    }

    // Promise 4
    private static void look() {
        KeptPages x = pages(0, 1, 0);
        x.go(10);
        due("4 no page", x.look(3, 0, 1, NONE), UNKNOWN);
        due("4 no page, no kind", x.look(-1, 3, 1, NONE), UNKNOWN);
        due("4 kind 3", x.look(0, 3, 1, NONE), OUTSIDE);
        due("4 kind -1", x.look(0, -1, 1, NONE), OUTSIDE);
        due("4 piece 60", x.look(0, 0, 1L << 60, NONE), OUTSIDE);
        due("4 piece 63", x.look(0, 0, Long.MIN_VALUE, NONE), OUTSIDE);
        due("4 date after now", x.look(0, 0, 1, 11), OUTSIDE);
        due("4 date -2", x.look(0, 0, 1, -2), OUTSIDE);
        due("4 nothing came", x.count(2), 0);
        due("4 date now, piece 59", x.look(0, 0, 1L << 59, 10), 0);
        due("4 knocked at this hour", x.look(2, 0, 1, NONE), NOT);
        due("4 outside ahead of not", x.look(2, 0, 1, 11), OUTSIDE);
        due("4 gone, SET and DATE aside", x.look(1, 1, -1, 99), 1);
        x.go(1);
        due("4 barred, SET and DATE aside", x.look(1, 2, -1, 99), 2);
        due("4 barred knocks too", x.look(1, 0, 1, NONE), NOT);
        due("4 barred brings nothing", x.count(7), 1);
        due("4 date 0", x.look(0, 0, 0, 0), 3);
        due("4 let ahead of full", full().look(0, 0, 1, NONE), NOT);
        KeptPages full = full();
        full.go(1);
        due("4 the 101st", full.look(0, 0, 1, NONE), FULL);
        due("4 LOOKS", full.count(2), 100);
    }

    private static KeptPages full() {
        KeptPages x = pages(0);
        for (int i = 0; i < 100; i++) {
            due("4 look " + i, seen(x, i, 0, 1), i);
        }
        return x;
    }

    // Promise 4, by RIGHTS
    private static void lookLet() {
        KeptPages x = pages(0, 1);
        Checks.rights(x, "let 0 each 5;never 1;");
        due("4 never", x.look(1, 0, 1, NONE), NOT);
        due("4 at 0", seen(x, 0, 0, 1), 0);
        due("4 four hours ago", seen(x, 4, 0, 1), NOT);
        due("4 five hours ago", seen(x, 5, 0, 1), 1);
        due("4 take", x.take(1), 1);
        due("4 a hole knocked too", seen(x, 9, 0, 1), NOT);
        due("4 five after the hole", seen(x, 10, 0, 1), 2);
        due("4 rights as at first", x.read(), 0);
        due("4 one hour later", seen(x, 11, 0, 1), 3);
        due("4 no longer never", seen(x, 11, 1, 1), 4);
    }

    // Promise 5
    private static void take() {
        KeptPages x = pages(0);
        seen(x, 0, 0, 3);
        seen(x, 1, 0, 5);
        goTo(x, 2);
        x.look(0, 2, 0, NONE);
        due("5 take(3)", x.take(3), UNKNOWN);
        due("5 take(-1)", x.take(-1), UNKNOWN);
        due("5 take(0)", x.take(0), 1);
        due("5 take(0) again", x.take(0), NOT);
        due("5 a barred one", x.take(2), 1);
        due("5 HOLES", x.count(3), 2);
        due("5 LOOKS", x.count(2), 3);
        due("5 VIEWS", x.count(4), 1);
        due("5 the view left", x.view(0, 0), 1);
        due("5 houses keep", x.count(7), 3);
        due("5 nowhere", x.nowhere(), 0);
    }

    // Promise 6
    private static void told() {
        KeptPages x = pages(3, 4);
        dated(x, 7, 1, 0b1011, 2);
        gone(x, 8, 1);
        goTo(x, 9);
        x.look(1, 2, 5, 3);
        seen(x, 9, 0, 0);
        int[][] want = {{1, 7, 0, 2, 3, 0}, {1, 8, 1, NONE, 0, 0}, {1, 9, 2, NONE, 0, 0}, {0, 9, 0, NONE, 0, 0}};
        for (int l = 0; l < 4; l++) {
            for (int what = 0; what < 6; what++) {
                due("6 told(" + l + ", " + what + ")", x.told(l, what), want[l][what]);
            }
        }
        x.take(0);
        int[] hole = {1, 7, NONE, NONE, NONE, 1};
        for (int what = 0; what < 6; what++) {
            due("6 told of a hole, " + what, x.told(0, what), hole[what]);
        }
        due("6 told(0, 6)", x.told(0, 6), OUTSIDE);
        due("6 told(0, -1)", x.told(0, -1), OUTSIDE);
        due("6 told(4, 6)", x.told(4, 6), UNKNOWN);
        due("6 told(-1, 0)", x.told(-1, 0), UNKNOWN);
    }

    // Promise 7
    private static void pieces() {
        KeptPages x = pages(0);
        seen(x, 0, 0, (1L << 60) - 1);
        gone(x, 1, 0);
        due("7 all pieces", x.pieces(0), (1L << 60) - 1);
        due("7 of a gone one", x.pieces(1), 0);
        x.take(0);
        due("7 of a hole", x.pieces(0), 0);
        due("7 pieces(2)", x.pieces(2), UNKNOWN);
        due("7 pieces(-1)", x.pieces(-1), UNKNOWN);
    }

    // Promise 8
    private static void view() {
        KeptPages x = pages(0, 1);
        seen(x, 0, 0, 1);
        seen(x, 0, 1, 1);
        goTo(x, 1);
        x.look(0, 2, 0, NONE);
        gone(x, 2, 0);
        seen(x, 3, 0, 1);
        x.take(0);
        due("8 how many", x.view(0, NONE), 2);
        due("8 first", x.view(0, 0), 3);
        due("8 second", x.view(0, 1), 4);
        due("8 third", x.view(0, 2), NONE);
        due("8 of another", x.view(1, 0), 1);
        due("8 -2", x.view(0, -2), NONE);
        due("8 least", x.view(0, LEAST), NONE);
        due("8 most", x.view(0, MOST), NONE);
        due("8 no page", x.view(2, NONE), UNKNOWN);
    }

    // Promise 9
    private static void count() {
        KeptPages x = pages(0, 1);
        seen(x, 4, 0, 7);
        seen(x, 4, 1, 9);
        goTo(x, 5);
        x.look(0, 2, 0, NONE);
        gone(x, 5, 1);
        x.part(0);
        Checks.feed(x, "abc");
        x.lose(0, 0);
        x.lose(1, 0);
        x.lose(1, 1);
        x.lose(2, 0);
        x.lose(2, 1);
        x.lose(2, 2);
        int[] want = {5, 2, 4, 0, 3, 1, 3, 3, 2, 1, 1};
        for (int what = 0; what <= 10; what++) {
            due("9 count(" + what + ")", x.count(what), want[what]);
        }
        x.lose(0, 3);
        x.lose(1, 3);
        x.lose(2, 3);
        due("9 two that no house has", x.count(10), 2);
        x.take(1);
        due("9 a hole's pieces are of no view", x.count(10), 1);
        due("9 count(11)", x.count(11), OUTSIDE);
        due("9 count(-1)", x.count(-1), OUTSIDE);
    }

    private static void rights() {
        feed();
        read();
        readFaults();
        program();
        programFaults();
        fault();
        right();
    }

    // Promise 10
    private static void feed() {
        KeptPages x = new KeptPages();
        due("10 n 0", x.feed(0, 1), OUTSIDE);
        due("10 n 9", x.feed(9, 1), OUTSIDE);
        // The five lowest bytes, the highest of these first; what stands above them is left out.
        due("10 five bytes", x.feed(5, 0x7f7f7f0000000000L | Checks.bytes("night")), 5);
        due("10 three more", x.feed(3, Checks.bytes(" 3;")), 8);
        due("10 they are read", x.read(), 1);
        due("10 night", x.right(6), 3);
        due("10 empty then", x.count(6), 0);
        for (int i = 1; i <= 24; i++) {
            due("10 eight", x.feed(8, 0), 8 * i);
        }
        due("10 up to 199", x.feed(7, 0), 199);
        due("10 above 200", x.feed(2, 0), FULL);
        due("10 outside ahead of full", x.feed(9, 0), OUTSIDE);
        due("10 refused changes nothing", x.count(6), 199);
        due("10 the 200th", x.feed(1, -1), 200);
        due("10 the 201st", x.feed(1, 0), FULL);
    }

    // Promise 11
    private static void read() {
        KeptPages x = new KeptPages();
        due("11 all clauses", Checks.rights(x, "never 2;let 0 each 99;night 12;patience 999;clothes 0,59 , 7;"), 5);
        int[] want = {99, 1, 0, 1, 1, 1, 12, 999, 3};
        for (int what = 0; what <= 8; what++) {
            due("11 right(" + what + ")", x.right(what), want[what]);
        }
        due("11 what it does not tell is as at first", Checks.rights(x, "let5each007;"), 1);
        int[] then = {1, 1, 1, 1, 1, 7, 8, 24, 0};
        for (int what = 0; what <= 8; what++) {
            due("11 then right(" + what + ")", x.right(what), then[what]);
        }
        due("11 blanks", Checks.rights(x, "  night  1 ;  patience 0;  "), 2);
        due("11 night 1", x.right(6), 1);
        due("11 patience 0", x.right(7), 0);
        due("11 never and let of one door", Checks.rights(x, "let 3 each 4;never 3;let 4 each 1;never 4;"), 4);
        due("11 never has it", x.right(3), 0);
        due("11 empty", x.read(), 0);
        due("11 door 3 again", x.right(3), 1);
        due("11 blanks alone", Checks.rights(x, "   "), 0);
        Checks.rights(x, "let 0 each 5;");
        Checks.rights(x, "let 0 each 6;");
        Checks.rights(x, "night 4;");
        due("11 no let of earlier texts", x.right(0), 1);
        Checks.rights(x, "never 0;");
        Checks.rights(x, "never 1;");
        Checks.rights(x, "never 1;");
        due("11 no never of earlier texts", x.right(0), 1);
    }

    private static void readFaults() {
        faulty("x", 1, 0);
        faulty(";", 1, 0);
        faulty("xever 1;", 1, 0);
        faulty("nevera 1;", 1, 0);
        faulty("neverz 1;", 1, 0);
        faulty("never", 1, 5);
        faulty("never  ", 1, 7);
        faulty("never x;", 1, 6);
        faulty("never 2", 1, 7);
        faulty("never 2 ,", 1, 8);
        faulty("never 2;;", 1, 8);
        faulty("nev er 2;", 1, 0);
        faulty("nevers 2;", 1, 0);
        faulty("neVer 2;", 1, 0);
        faulty("never\t2;", 1, 5);
        faulty("never 1 2;", 1, 8);
        faulty("never 2 let 3 each 1;", 1, 8);
        faulty("night 3;link 4;", 1, 8);
        faulty("each 3;", 1, 0);
        faulty("5;", 1, 0);
        faulty("1234;", 1, 0);
        faulty("let 1 each;", 1, 10);
        faulty("let 1 eachs 3;", 1, 6);
        faulty("let 1 3;", 1, 6);
        faulty("clothes ;", 1, 8);
        faulty("clothes 1,;", 1, 10);
        faulty("clothes 1 2;", 1, 10);
        faulty("night 3;" + (char) 255, 1, 8);
        faulty("night -1;", 1, 6);
        faulty("never 6;", 2, 6);
        faulty("never 0001;", 2, 6);
        faulty("let 6 each 1;", 2, 4);
        faulty("let 1 each 0;", 2, 11);
        faulty("let 1 each 100;", 2, 11);
        faulty("night 0;", 2, 6);
        faulty("night 13;", 2, 6);
        faulty("night 13", 2, 6);
        faulty("patience 1000;", 2, 9);
        faulty("patience 99999999999999999999;", 2, 9);
        faulty("patience 4294967297;", 2, 9);
        faulty("clothes 60;", 2, 8);
        faulty("clothes 1,060,1;", 2, 10);
        faulty("night 3;night 3;", 3, 8);
        faulty("night 3;  night x;", 3, 10);
        faulty("patience 3;patience 3;", 3, 11);
        faulty("clothes 3;clothes 3;", 3, 10);
        faulty("never 3;never 3;", 3, 14);
        faulty("never 3;never 03", 3, 14);
        faulty("let 3 each 1;never 3;let 3 any", 3, 25);
        faulty("clothes 7,8,07;", 4, 12);
    }

    /** A text read on rights of another make, which must stay. */
    private static void faulty(String text, int kind, int place) {
        KeptPages x = new KeptPages();
        Checks.rights(x, "night 5;let 3 each 9;clothes 1;");
        due("11 \"" + text + "\"", Checks.rights(x, text), -10 - kind);
        due("13 \"" + text + "\"", x.fault(), place);
        due("11 empty then", x.count(6), 0);
        due("11 night stays", x.right(6), 5);
        due("11 let stays", x.right(3), 9);
        due("11 clothes stay", x.right(8), 1);
    }

    // Promise 12
    private static void program() {
        KeptPages x = pages(0, 1);
        Checks.feed(x, "link 7;");
        due("12 no page", x.program(2), UNKNOWN);
        due("12 the text stays", x.count(6), 7);
        due("12 a clause", x.program(1), 1);
        due("12 the text is empty", x.count(6), 0);
        due("12 its page's", x.links(1, 5, 0), 7);
        due("12 not another's", x.links(0, 5, NONE), 0);
        String blanks = " ".repeat(113);
        due("12 120 bytes", Checks.program(x, 0, "link 8;" + blanks), 1);
        Checks.feed(x, "link 9;" + blanks + " ");
        due("12 121 bytes", x.program(0), NOT);
        due("12 unknown ahead of not", x.program(-1), UNKNOWN);
        due("12 the text stays then too", x.count(6), 121);
        due("12 it is as it was", x.links(0, 5, 0), 8);
        due("12 read takes it", x.read(), -11);
        due("12 eight", Checks.program(x, 0, "link1;row2by3times0;ever 4 by 5;link1;link1;link1;link1;link999 ; "), 8);
        due("12 none", x.program(0), 0);
        due("12 no links then", x.links(0, 200, NONE), 0);
    }

    private static void programFaults() {
        faultyProgram("go 3;", 1, 0);
        faultyProgram(";", 1, 0);
        faultyProgram("link 1;;", 1, 7);
        faultyProgram("night 3;", 1, 0);
        faultyProgram("link;", 1, 4);
        faultyProgram("link 3", 1, 6);
        faultyProgram("links 3;", 1, 0);
        faultyProgram("link 3 by 4;", 1, 7);
        faultyProgram("row 3;", 1, 5);
        faultyProgram("row 3 by 4;", 1, 10);
        faultyProgram("row 3 times 4;", 1, 6);
        faultyProgram("row 3 by 4 times;", 1, 16);
        faultyProgram("ever 3;", 1, 6);
        faultyProgram("ever 3 by 4 times 5;", 1, 12);
        faultyProgram("link 3,4;", 1, 6);
        faultyProgram("link 1000;", 2, 5);
        faultyProgram("link 0000;", 2, 5);
        faultyProgram("row 1000 by 1 times 1;", 2, 4);
        faultyProgram("row 1 by 1000 times 1;", 2, 9);
        faultyProgram("row 1 by 1 times 1000;", 2, 17);
        faultyProgram("ever 1000 by 1;", 2, 5);
        faultyProgram("ever 1 by 1000;", 2, 10);
        String eight = "link 1;".repeat(8);
        faultyProgram(eight + "link 1;", 5, 56);
        faultyProgram(eight + "  row", 5, 58);
        faultyProgram(eight + " ever", 5, 57);
        faultyProgram(eight + "go 3;", 1, 56);
        faultyProgram(eight + ";", 1, 56);
        faultyProgram(eight + "linked", 1, 56);
        faultyProgram("link 1;".repeat(7) + "link x;link 1;", 1, 54);
    }

    private static void faultyProgram(String text, int kind, int place) {
        KeptPages x = pages(0);
        Checks.program(x, 0, "row 7 by 2 times 4;");
        due("12 \"" + text + "\"", Checks.program(x, 0, text), -10 - kind);
        due("13 of a program \"" + text + "\"", x.fault(), place);
        due("12 empty then", x.count(6), 0);
        due("12 as it was", x.links(0, 9, NONE), 4);
        due("12 as it was, the last", x.links(0, 9, 3), 13);
        due("12 no trap", x.more(0, 9), 0);
    }

    // Promise 13
    private static void fault() {
        KeptPages x = pages(0);
        Checks.rights(x, "night 99;");
        due("13 of read", x.fault(), 6);
        due("13 again", x.fault(), 6);
        Checks.program(x, 0, "link 1");
        due("13 of program", x.fault(), 6);
        Checks.feed(x, "link");
        x.program(1);
        due("13 a refused one does not count", x.fault(), 6);
        Checks.feed(x, " ".repeat(150));
        x.program(0);
        due("13 nor one above 120 bytes", x.fault(), 6);
        x.read();
        due("13 the latest", x.fault(), 0);
        x.read();
        due("13 none", x.fault(), NONE);
        Checks.rights(x, "night");
        x.program(0);
        due("13 none by program", x.fault(), NONE);
    }

    // Promise 14
    private static void right() {
        KeptPages x = new KeptPages();
        due("14 right(9)", x.right(9), OUTSIDE);
        due("14 right(-1)", x.right(-1), OUTSIDE);
        Checks.rights(x, "let 0 each 1;let 1 each 2;let 2 each 3;let 3 each 4;let 4 each 5;never 5;");
        for (int door = 0; door < 5; door++) {
            due("14 right(" + door + ")", x.right(door), door + 1);
        }
        due("14 never", x.right(5), 0);
        Checks.rights(x, "clothes 0, 1, 2, 3, 59;night 7;patience 8;");
        due("14 night", x.right(6), 7);
        due("14 patience", x.right(7), 8);
        due("14 clothes", x.right(8), 5);
    }

    private static void whatItWas() {
        alike();
        sure();
        sureByPatience();
        state();
        hours();
    }

    // Promise 15
    private static void alike() {
        KeptPages x = pages(0, 1);
        seen(x, 0, 0, 1);
        seen(x, 0, 1, 1);
        seen(x, 1, 0, 3);
        gone(x, 2, 0);
        gone(x, 2, 1);
        seen(x, 3, 0, 0);
        goTo(x, 4);
        x.look(0, 2, 0, NONE);
        due("15 of two pages", x.alike(0, 1), 1);
        due("15 itself", x.alike(2, 2), 1);
        due("15 other pieces", x.alike(0, 2), 0);
        due("15 gone both", x.alike(3, 4), 1);
        due("15 gone and seen", x.alike(3, 0), 0);
        due("15 gone and seen empty", x.alike(5, 3), 0);
        due("15 barred", x.alike(0, 6), UNKNOWN);
        due("15 barred first", x.alike(6, 0), UNKNOWN);
        due("15 none such", x.alike(0, 7), UNKNOWN);
        due("15 -1", x.alike(-1, 0), UNKNOWN);
        Checks.rights(x, "clothes 1;");
        due("15 but for clothes", x.alike(0, 2), 1);
        Checks.rights(x, "clothes 0,1;");
        due("15 only clothes and empty", x.alike(0, 5), 1);
        due("15 gone is no bare page", x.alike(3, 5), 0);
        x.take(1);
        due("15 a hole", x.alike(0, 1), UNKNOWN);
    }

    // Promise 16
    private static void sure() {
        KeptPages x = pages(0, 1);
        due("16 no views", x.sure(0, 0), NONE);
        seen(x, 10, 0, 1);
        dated(x, 12, 0, 2, 8);
        dated(x, 20, 0, 2, 12);
        due("16 no page", x.sure(2, 0), UNKNOWN);
        due("16 -1", x.sure(0, -1), OUTSIDE);
        due("16 after now", x.sure(0, 21), OUTSIDE);
        due("16 at 7", x.sure(0, 7), NONE);
        due("16 at 8, the date", x.sure(0, 8), 1);
        due("16 at 9", x.sure(0, 9), 1);
        due("16 at 10", x.sure(0, 10), -2);
        due("16 at 11", x.sure(0, 11), 1);
        due("16 at 12, the first of two", x.sure(0, 12), 1);
        due("16 at 13, side by side", x.sure(0, 13), 1);
        due("16 at 20", x.sure(0, 20), 2);
        x.go(5);
        due("16 behind the last", x.sure(0, 21), NONE);
        due("16 another page", x.sure(1, 10), NONE);
        Checks.rights(x, "clothes 0,1;");
        due("16 no quarrel in other clothes", x.sure(0, 10), 0);
        due("16 alike now", x.sure(0, 11), 0);
    }

    private static void sureByPatience() {
        KeptPages x = pages(0);
        gone(x, 0, 0);
        goTo(x, 10);
        x.look(0, 2, 0, NONE);
        gone(x, 24, 0);
        gone(x, 49, 0);
        seen(x, 50, 0, 1);
        gone(x, 51, 0);
        due("16 24 apart, over a barred one", x.sure(0, 10), 0);
        due("16 the last hour between", x.sure(0, 23), 0);
        due("16 25 apart", x.sure(0, 30), NONE);
        due("16 itself", x.sure(0, 24), 2);
        due("16 a view between", x.sure(0, 50), 4);
        x.take(4);
        due("16 none between any more", x.sure(0, 50), 3);
        x.take(2);
        due("16 49 apart", x.sure(0, 10), NONE);
        Checks.rights(x, "patience 49;");
        due("16 in patience 49", x.sure(0, 10), 0);
        Checks.rights(x, "patience 48;");
        due("16 in patience 48", x.sure(0, 10), NONE);
        Checks.rights(x, "patience 0;");
        due("16 in patience 0", x.sure(0, 50), NONE);
        due("16 its own hour always", x.sure(0, 49), 3);
    }

    // Promise 17
    private static void state() {
        KeptPages x = pages(0, 1);
        seen(x, 10, 0, 1);
        seen(x, 20, 0, 2);
        dated(x, 30, 0, 1, 18);
        seen(x, 40, 0, 4);
        gone(x, 50, 0);
        goTo(x, 60);
        int[] hours = {5, 10, 15, 18, 20, 21, 30, 35, 40, 45, 50, 60};
        int[] ones = {1, 2, 1, 2, 1, 2, 2, 1, 0, 0, 0, 0};
        int[] twos = {0, 0, 1, 0, 1, 0, 0, 0, 0, 0, 0, 0};
        int[] fours = {0, 0, 0, 0, 0, 0, 0, 1, 2, 1, 0, 0};
        int[] gones = {0, 0, 0, 0, 0, 0, 0, 0, 0, 1, 2, 1};
        for (int i = 0; i < hours.length; i++) {
            due("17 as in 0 at " + hours[i], x.state(0, hours[i]), ones[i]);
            due("17 as in 1 at " + hours[i], x.state(1, hours[i]), twos[i]);
            due("17 as in 2 at " + hours[i], x.state(2, hours[i]), ones[i]);
            due("17 as in 3 at " + hours[i], x.state(3, hours[i]), fours[i]);
            due("17 as in 4 at " + hours[i], x.state(4, hours[i]), gones[i]);
        }
        due("17 no look", x.state(5, 0), UNKNOWN);
        due("17 unknown ahead of outside", x.state(5, -1), UNKNOWN);
        due("17 -1", x.state(0, -1), OUTSIDE);
        due("17 after now", x.state(0, 61), OUTSIDE);
        x.take(4);
        due("17 a hole", x.state(4, 0), UNKNOWN);
        due("17 the hole tells nothing", x.state(3, 60), 1);
        x.look(1, 2, 0, NONE);
        due("17 a barred one", x.state(5, 0), UNKNOWN);
    }

    // Promise 18
    private static void hours() {
        KeptPages x = pages(0);
        seen(x, 10, 0, 1);
        seen(x, 20, 0, 2);
        dated(x, 30, 0, 1, 18);
        seen(x, 40, 0, 4);
        goTo(x, 60);
        due("18 sure", x.hours(0, 0, 60, 2), 13);
        due("18 could", x.hours(0, 0, 60, 1), 10 + 7 + 1 + 9);
        due("18 not", x.hours(0, 0, 60, 0), 21);
        due("18 one hour", x.hours(0, 20, 20, 1), 1);
        due("18 one hour, sure", x.hours(0, 20, 20, 2), 0);
        due("18 from within to within", x.hours(0, 19, 31, 2), 11);
        due("18 a below 0", x.hours(0, -1, 5, 0), OUTSIDE);
        due("18 b after now", x.hours(0, 0, 61, 0), OUTSIDE);
        due("18 b below a", x.hours(0, 5, 4, 0), OUTSIDE);
        due("18 what 3", x.hours(0, 0, 5, 3), OUTSIDE);
        due("18 what -1", x.hours(0, 0, 5, -1), OUTSIDE);
        due("18 no look", x.hours(4, -1, 5, 3), UNKNOWN);
        x.take(3);
        due("18 a hole", x.hours(3, 0, 5, 0), UNKNOWN);
        due("18 behind the last view", x.hours(0, 31, 60, 1), 30);
        KeptPages y = pages(0);
        seen(y, 2999, 0, 1);
        due("18 up to 2999", y.hours(0, 0, 2999, 1), 2999);
        seen(y, 3000, 0, 2);
        due("18 up to 3000", y.hours(0, 0, 3000, 1), 2999);
        due("18 at 3000", y.hours(1, 2999, 3000, 2), 1);
    }

    private static void wholes() {
        part();
        wipe();
        whole();
        wholeFewest();
        wholeNearest();
        bothWays();
    }

    // Promise 19
    private static void part() {
        KeptPages x = pages(0, 1, 2, 3, 4, 5, 0, 1, 2);
        for (int p = 0; p < 6; p++) {
            seen(x, 0, p, 1);
        }
        for (int p = 6; p < 9; p++) {
            seen(x, 1, p, 1);
        }
        gone(x, 2, 0);
        goTo(x, 3);
        x.look(0, 2, 0, NONE);
        seen(x, 4, 0, 1);
        due("19 gone", x.part(9), NOT);
        due("19 barred", x.part(10), UNKNOWN);
        due("19 none such", x.part(12), UNKNOWN);
        due("19 -1", x.part(-1), UNKNOWN);
        for (int l = 0; l < 8; l++) {
            due("19 part " + l, x.part(l), l + 1);
        }
        due("19 its page is there", x.part(11), NOT);
        due("19 itself", x.part(0), NOT);
        due("19 the ninth", x.part(8), FULL);
        due("19 places", x.count(5), 8);
        x.take(0);
        due("19 a hole goes out", x.count(5), 7);
        due("19 a hole", x.part(0), UNKNOWN);
        due("19 its page is there no more", x.part(11), 8);
    }

    // Promise 20
    private static void wipe() {
        KeptPages x = pages(0, 1);
        seen(x, 0, 0, 1);
        seen(x, 0, 1, 1);
        due("20 empty", x.wipe(), 0);
        x.part(0);
        x.part(1);
        due("20 two", x.wipe(), 2);
        due("20 none then", x.wipe(), 0);
        due("20 places", x.count(5), 0);
        due("20 again", x.part(1), 1);
    }

    // Promise 21
    private static void whole() {
        KeptPages x = pages(0, 1);
        due("21 outside ahead of not", x.whole(6), OUTSIDE);
        due("21 -1", x.whole(-1), OUTSIDE);
        due("21 empty", x.whole(5), NOT);
        seen(x, 5, 0, 1);
        seen(x, 8, 1, 2);
        seen(x, 12, 0, 1);
        seen(x, 20, 1, 2);
        seen(x, 21, 0, 4);
        goTo(x, 30);
        x.part(0);
        x.part(1);
        due("21 first", x.whole(0), 8);
        due("21 how many", x.whole(1), 5);
        due("21 could", x.whole(2), 0);
        due("21 fewest", x.whole(3), 0);
        due("21 nearest", x.whole(4), 8);
        due("21 two there", x.whole(5), 2);
        Checks.rights(x, "patience 11;");
        due("21 less patience, first", x.whole(0), 8);
        due("21 less patience, how many", x.whole(1), 1);
        Checks.rights(x, "patience 2;");
        due("21 no patience, first", x.whole(0), NONE);
        due("21 no patience, how many", x.whole(1), 0);
        due("21 no patience, could", x.whole(2), 0);
        due("21 no patience, fewest", x.whole(3), 1);
        due("21 no patience, nearest", x.whole(4), 5);
        due("21 no patience, one there", x.whole(5), 1);
        x.wipe();
        x.part(4);
        x.part(3);
        due("21 could not before", x.whole(2), 13);
    }

    private static void wholeFewest() {
        // Page 0 stood so at 0 and 10, page 1 at 10, page 2 at 20; the row is 2, 0, 1.
        KeptPages x = pages(0, 1, 2);
        Checks.rights(x, "patience 0;");
        seen(x, 0, 0, 1);
        seen(x, 10, 0, 1);
        seen(x, 10, 1, 1);
        seen(x, 11, 0, 2);
        seen(x, 20, 2, 1);
        x.part(4);
        x.part(0);
        x.part(2);
        due("21 leave the first place", x.whole(3), 1);
        due("21 nearest", x.whole(4), 10);
        due("21 two there", x.whole(5), 2);
        x.take(2);
        due("21 of sets of like number the least", x.whole(3), 1);
        due("21 nearest then", x.whole(4), 0);
        x.take(0);
        due("21 a row of one", x.whole(3), 0);
        due("21 it stood at", x.whole(0), 20);
    }

    private static void wholeNearest() {
        KeptPages x = pages(0, 1);
        Checks.rights(x, "patience 0;");
        seen(x, 0, 1, 2);
        seen(x, 3, 0, 1);
        seen(x, 3, 1, 2);
        seen(x, 4, 0, 2);
        seen(x, 5, 1, 1);
        seen(x, 6, 0, 2);
        seen(x, 8, 0, 1);
        x.part(1);
        x.part(4);
        // At 3 page 0 is sure and page 1 is not; at 5 page 1 is sure and page 0 not; at 8 page 0 is sure and 1 could.
        due("21 fewest are 0 there", x.whole(4), 8);
        due("21 one is 2 there", x.whole(5), 1);
        due("21 the fewest by the number of the set", x.whole(3), 1);
        x.take(6);
        due("21 the least hour of like ones", x.whole(4), 3);
        KeptPages y = pages(0, 1, 2);
        Checks.rights(y, "patience 0;");
        seen(y, 0, 0, 1);
        seen(y, 0, 1, 1);
        seen(y, 0, 2, 2);
        seen(y, 1, 2, 1);
        goTo(y, 9);
        y.part(0);
        y.part(1);
        y.part(3);
        due("21 most are 2, though one is 0", y.whole(4), 0);
        due("21 two are 2 there", y.whole(5), 2);
        due("21 it could at 1", y.whole(2), 1);
    }

    // Promise 22
    private static void bothWays() {
        KeptPages x = pages(0, 1, 2);
        seen(x, 2, 0, 1);
        seen(x, 4, 1, 1);
        seen(x, 6, 1, 1);
        seen(x, 7, 0, 1);
        gone(x, 9, 0);
        goTo(x, 12);
        due("22 there and back", x.bothWays(3, 0, 8), 4);
        due("22 one alone", x.bothWays(1, 0, 7), 2);
        due("22 from its first hour", x.bothWays(1, 2, 7), 2);
        due("22 too late for the first", x.bothWays(1, 3, 7), NONE);
        due("22 too early for the last", x.bothWays(1, 0, 6), NONE);
        due("22 not alike all", x.bothWays(1, 0, 9), NONE);
        due("22 up to its last hour", x.bothWays(2, 0, 6), 4);
        due("22 no view", x.bothWays(4, 0, 12), NONE);
        due("22 none from a to b", x.bothWays(2, 7, 12), NONE);
        due("22 none up to b", x.bothWays(2, 0, 3), NONE);
        due("22 the empty set", x.bothWays(0, 5, 5), 5);
        due("22 no such page", x.bothWays(8, -1, 99), UNKNOWN);
        due("22 bit 31", x.bothWays(LEAST, 0, 1), UNKNOWN);
        due("22 a below 0", x.bothWays(1, -1, 5), OUTSIDE);
        due("22 b after now", x.bothWays(1, 0, 13), OUTSIDE);
        due("22 b below a", x.bothWays(1, 5, 4), OUTSIDE);
        seen(x, 12, 2, 1);
        due("22 all there, none back", x.bothWays(6, 0, 12), NONE);
        Checks.rights(x, "clothes 0;");
        KeptPages y = pages(0);
        seen(y, 0, 0, 1);
        seen(y, 1, 0, 3);
        due("22 unlike", y.bothWays(1, 0, 1), NONE);
        Checks.rights(y, "clothes 1;");
        due("22 but for clothes", y.bothWays(1, 0, 1), 0);
    }

    private static void ratesAndNights() {
        rate();
        plan();
        planOfOneDoor();
        planWorth();
    }

    // Promise 23
    private static void rate() {
        KeptPages x = pages(0);
        due("23 no page", x.rate(1), UNKNOWN);
        due("23 no views", x.rate(0), NONE);
        seen(x, 5, 0, 1);
        due("23 one view", x.rate(0), NONE);
        seen(x, 6, 0, 2);
        due("23 one change in an hour", x.rate(0), 1000);
        seen(x, 12, 0, 2);
        due("23 one in seven", x.rate(0), 142);
        gone(x, 20, 0);
        due("23 two in fifteen", x.rate(0), 133);
        Checks.rights(x, "clothes 0,1;");
        due("23 clothes change nothing", x.rate(0), 66);
        x.take(3);
        due("23 none then", x.rate(0), 0);
    }

    // Promise 24
    private static void plan() {
        KeptPages x = pages(0, 1, 2, 3, 4, 5, 0, 1);
        due("24 no such page", x.plan(1 << 8, 99), UNKNOWN);
        due("24 bit 31", x.plan(LEAST, NONE), UNKNOWN);
        due("24 eight pages", x.plan(255, NONE), OUTSIDE);
        due("24 i -2", x.plan(1, -2), OUTSIDE);
        due("24 i 12", x.plan(1, 12), OUTSIDE);
        due("24 i 11", x.plan(1, 11), NONE);
        due("24 seven unseen", x.plan(127, NONE), 7000);
        for (int i = 0; i < 7; i++) {
            due("24 knock " + i, x.plan(127, i), i);
        }
        due("24 knock 7", x.plan(127, 7), NONE);
        Checks.rights(x, "night 3;never 1;");
        due("24 three knocks", x.plan(127, NONE), 3000);
        due("24 never left out", x.plan(127, 1), 2);
        due("24 the third", x.plan(127, 2), 3);
        due("24 behind the night", x.plan(127, 3), NONE);
        due("24 never alone", x.plan(2, NONE), 0);
        due("24 never alone, none", x.plan(2, 0), NONE);
        due("24 the empty set", x.plan(0, NONE), 0);
    }

    private static void planOfOneDoor() {
        KeptPages x = pages(0, 0, 1, 1);
        Checks.rights(x, "night 4;let 0 each 3;let 1 each 2;");
        // Pages 0 and 1 have the knocks 0 and 3, and 1 and 2 are too near for pages 2 and 3.
        due("24 three of four", x.plan(15, NONE), 3000);
        int[] near = {0, 2, NONE, 1};
        for (int i = 0; i < 4; i++) {
            due("24 knock " + i + " of four", x.plan(15, i), near[i]);
        }
        Checks.rights(x, "night 4;let 0 each 4;let 1 each 2;");
        due("24 one of door 0", x.plan(15, NONE), 3000);
        int[] first = {0, 2, NONE, 3};
        for (int i = 0; i < 4; i++) {
            due("24 knock " + i + " with one of door 0", x.plan(15, i), first[i]);
        }
        Checks.rights(x, "night 3;let 0 each 9;let 1 each 2;");
        int[] other = {2, 0, 3};
        due("24 page 0 between", x.plan(15, NONE), 3000);
        for (int i = 0; i < 3; i++) {
            due("24 knock " + i + " in between", x.plan(15, i), other[i]);
        }
        KeptPages y = pages(0, 0, 0);
        Checks.rights(y, "night 2;");
        seen(y, 0, 0, 1);
        due("24 the worthier two, though later", y.plan(7, NONE), 2000);
        due("24 page 1 first", y.plan(7, 0), 1);
        due("24 page 2 then", y.plan(7, 1), 2);
    }

    private static void planWorth() {
        KeptPages x = pages(0, 0, 1);
        Checks.rights(x, "night 1;");
        seen(x, 0, 0, 1);
        seen(x, 1, 1, 1);
        seen(x, 2, 0, 2);
        seen(x, 4, 1, 2);
        goTo(x, 6);
        due("24 rate 500 for 4 hours", x.plan(1, NONE), 2000);
        due("24 rate 333 for 2 hours", x.plan(2, NONE), 666);
        due("24 without views", x.plan(4, NONE), 1000);
        due("24 the most of one knock", x.plan(7, NONE), 2000);
        due("24 that one", x.plan(7, 0), 0);
        due("24 the later, if worth more", x.plan(6, 0), 2);
        x.take(2);
        due("24 one view is worth nothing", x.plan(1, NONE), 0);
        due("24 but it comes ahead of none", x.plan(1, 0), 0);
        x.take(0);
        due("24 its views all taken out", x.plan(1, NONE), 1000);
        Checks.rights(x, "night 2;let 0 each 2;");
        due("24 of one door the worthier", x.plan(3, NONE), 1000);
        due("24 first knock", x.plan(3, 0), 0);
        due("24 no second", x.plan(3, 1), NONE);
    }

    private static void linksAndLikeness() {
        links();
        more();
        likeness();
        moved();
    }

    // Promise 25
    private static void links() {
        KeptPages x = pages(0);
        Checks.program(x, 0, "row 5 by 2 times 3;row 9 by 9 times 0;link 8;ever 999 by 999;link 4;");
        int[] want = {5, 7, 9, 8, 999, 1998};
        for (int i = 0; i < 6; i++) {
            due("25 link " + i, x.links(0, 6, i), want[i]);
        }
        due("25 how many", x.links(0, 6, NONE), 6);
        due("25 behind the purse", x.links(0, 6, 6), NONE);
        due("25 no purse", x.links(0, 0, NONE), 0);
        due("25 no purse, none", x.links(0, 0, 0), NONE);
        due("25 the whole purse", x.links(0, 200, NONE), 200);
        due("25 the last", x.links(0, 200, 199), 999 * 196);
        due("25 i -2", x.links(0, 200, -2), NONE);
        due("25 i most", x.links(0, 200, MOST), NONE);
        due("25 purse 201", x.links(0, 201, 0), OUTSIDE);
        due("25 purse -1", x.links(0, -1, 0), OUTSIDE);
        due("25 no page", x.links(1, 201, 0), UNKNOWN);
        Checks.program(x, 0, "row 1 by 1 times 999;ever 3 by 0;ever 4 by 0;");
        due("25 a long row", x.links(0, 200, 199), 200);
        Checks.program(x, 0, "ever 3 by 0;ever 4 by 0;");
        due("25 the first ever", x.links(0, 200, 150), 3);
        Checks.program(x, 0, "link 3;link 3;");
        due("25 two alike", x.links(0, 200, NONE), 2);
        due("25 all may be 0", Checks.program(x, 0, "link 0;row 0 by 0 times 0;ever 0 by 0;"), 3);
        due("25 a link of 0", x.links(0, 2, 0), 0);
        due("25 ever 0", x.links(0, 2, 1), 0);
    }

    // Promise 26
    private static void more() {
        KeptPages x = pages(0);
        due("26 no program", x.more(0, 0), 0);
        Checks.program(x, 0, "row 5 by 2 times 3;link 8;");
        due("26 enough", x.more(0, 4), 0);
        due("26 more than enough", x.more(0, 200), 0);
        due("26 not enough", x.more(0, 3), 1);
        due("26 nothing", x.more(0, 0), 1);
        Checks.program(x, 0, "row 5 by 2 times 999;ever 1 by 1;");
        due("26 a trap not come to", x.more(0, 200), 2);
        due("26 a trap with no purse", x.more(0, 0), 2);
        Checks.program(x, 0, "row 5 by 2 times 200;");
        due("26 200 of 200", x.more(0, 200), 0);
        Checks.program(x, 0, "row 5 by 2 times 201;");
        due("26 200 of 201", x.more(0, 200), 1);
        due("26 purse 201", x.more(0, 201), OUTSIDE);
        due("26 purse -1", x.more(0, -1), OUTSIDE);
        due("26 no page", x.more(1, -1), UNKNOWN);
    }

    // Promise 27
    private static void likeness() {
        KeptPages x = pages(0);
        seen(x, 0, 0, 0b0111);
        seen(x, 1, 0, 0b1110);
        seen(x, 2, 0, 0b1000);
        seen(x, 3, 0, 0);
        gone(x, 4, 0);
        goTo(x, 5);
        x.look(0, 2, 0, NONE);
        due("27 two of four", x.likeness(0, 1), 50);
        due("27 one of three", x.likeness(1, 2), 33);
        due("27 the other way", x.likeness(2, 1), 33);
        due("27 none of four", x.likeness(0, 2), 0);
        due("27 itself", x.likeness(0, 0), 100);
        due("27 with an empty one", x.likeness(0, 3), 0);
        due("27 two empty ones", x.likeness(3, 3), 100);
        due("27 gone", x.likeness(0, 4), NOT);
        due("27 gone first", x.likeness(4, 0), NOT);
        due("27 barred", x.likeness(0, 5), UNKNOWN);
        due("27 none such", x.likeness(4, 6), UNKNOWN);
        Checks.rights(x, "clothes 0,3;");
        due("27 but for clothes", x.likeness(0, 1), 100);
        due("27 clothes alone and empty", x.likeness(2, 3), 100);
        due("27 clothes alone", x.likeness(0, 2), 0);
        x.take(3);
        due("27 a hole", x.likeness(0, 3), UNKNOWN);
    }

    // Promise 28
    private static void moved() {
        KeptPages x = pages(0, 1, 2, 3, 4);
        due("28 no page", x.moved(5), UNKNOWN);
        due("28 no views", x.moved(0), NONE);
        seen(x, 0, 0, 0b11111);
        seen(x, 0, 1, 0b00111);
        seen(x, 0, 2, 0b00011);
        due("28 not gone", x.moved(0), NONE);
        gone(x, 1, 0);
        gone(x, 2, 0);
        due("28 three of five", x.moved(0), 1);
        seen(x, 3, 3, 0b01111);
        seen(x, 3, 4, 0b11110);
        due("28 the least of like ones", x.moved(0), 3);
        goTo(x, 4);
        x.look(3, 2, 0, NONE);
        due("28 barred changes nothing", x.moved(0), 3);
        gone(x, 5, 3);
        due("28 another, for it is gone too", x.moved(0), 4);
        due("28 the least of like ones for the other", x.moved(3), 1);
        gone(x, 6, 4);
        seen(x, 6, 1, 0b00011);
        due("28 below 60", x.moved(0), NONE);
        due("28 by its last seen one", x.moved(3), NONE);
        x.take(3);
        due("28 gone still", x.moved(0), NONE);
        KeptPages y = pages(0, 1);
        gone(y, 0, 0);
        seen(y, 0, 1, 0);
        due("28 never seen", y.moved(0), NONE);
        seen(y, 1, 0, 0);
        gone(y, 2, 0);
        due("28 empty ones are alike", y.moved(0), 1);
        KeptPages z = pages(0, 1, 2);
        seen(z, 0, 0, (1L << 12) - 1);
        seen(z, 0, 2, (1L << 22) - 1);
        seen(z, 1, 2, (1L << 22) - 1);
        seen(z, 1, 1, (1L << 22) - 1);
        due("28 seen twice is not gone", z.moved(2), NONE);
        gone(z, 2, 1);
        due("28 its like", z.moved(1), 2);
        gone(z, 3, 2);
        due("28 12 of 22 are too few", z.moved(2), NONE);
        seen(z, 4, 0, (1L << 13) - 1);
        due("28 13 of 22 are 59", z.moved(2), NONE);
        seen(z, 5, 0, (1L << 14) - 1);
        due("28 14 of 22, page 0", z.moved(2), 0);
    }

    private static void houses() {
        lose();
        words();
        mend();
    }

    // Promise 29
    private static void lose() {
        KeptPages x = pages(0);
        seen(x, 0, 0, 1L << 59 | 1);
        due("29 no house", x.lose(3, 60), UNKNOWN);
        due("29 house -1", x.lose(-1, 0), UNKNOWN);
        due("29 piece 60", x.lose(0, 60), OUTSIDE);
        due("29 piece -1", x.lose(0, -1), OUTSIDE);
        due("29 has it not", x.lose(0, 1), NOT);
        due("29 loses 59", x.lose(2, 59), 1);
        due("29 again", x.lose(2, 59), NOT);
        due("29 house 2", x.count(9), 1);
        due("29 house 1", x.count(8), 2);
        due("29 the look has it", x.pieces(0), 1L << 59 | 1);
        seen(x, 1, 0, 1L << 59);
        due("29 a look brings it again", x.count(9), 2);
    }

    // Promise 30
    private static void words() {
        KeptPages x = pages(0);
        due("30 empty", x.words(0, 1), 1);
        due("30 one twice", x.words(1, 1), OUTSIDE);
        due("30 no house", x.words(0, 3), UNKNOWN);
        due("30 no house twice", x.words(3, 3), UNKNOWN);
        due("30 house -1", x.words(-1, 0), UNKNOWN);
        due("30 no house first", x.words(3, 0), UNKNOWN);
        due("30 house -1 behind", x.words(0, -1), UNKNOWN);
        seen(x, 0, 0, (1L << 60) - 1);
        due("30 the same", x.words(2, 0), 1);
        x.lose(0, 31);
        due("30 one differs", x.words(0, 1), 13);
        x.lose(0, 30);
        due("30 its neighbour too", x.words(0, 1), 13);
        x.lose(0, 32);
        due("30 one of the other half", x.words(0, 1), 23);
        x.lose(1, 31);
        due("30 both lost it", x.words(1, 0), 23);
        due("30 with the third", x.words(1, 2), 13);
        for (int piece = 0; piece < 60; piece++) {
            x.lose(2, piece);
        }
        seen(x, 1, 0, 0);
        x.mend();
        for (int piece = 0; piece < 60; piece++) {
            x.lose(2, piece);
        }
        due("30 all 60 differ", x.words(1, 2), 1 + 2 * (1 + 2 + 4 + 8 + 15 + 30));
    }

    // Promise 31
    private static void mend() {
        KeptPages x = pages(0);
        due("31 nothing", x.mend(), 0);
        seen(x, 0, 0, 0b1111);
        x.lose(0, 0);
        x.lose(1, 0);
        x.lose(1, 1);
        x.lose(2, 2);
        x.lose(0, 3);
        x.lose(1, 3);
        x.lose(2, 3);
        due("31 one came to two houses, two to one each", x.mend(), 4);
        due("31 house 0", x.count(7), 3);
        due("31 house 1", x.count(8), 3);
        due("31 house 2", x.count(9), 3);
        due("31 lost for good", x.count(10), 1);
        due("31 again", x.mend(), 0);
        due("31 none differ", x.words(0, 2), 1);
    }

    private static void shown() {
        shownAsOf();
        since();
        first();
        nowhere();
    }

    // Promise 32
    private static void shownAsOf() {
        KeptPages x = pages(0, 1);
        seen(x, 3, 0, 1);
        goTo(x, 5);
        x.look(0, 2, 0, NONE);
        gone(x, 9, 0);
        dated(x, 20, 0, 1, 8);
        goTo(x, 25);
        due("32 before all", x.shown(0, 2, 0), NONE);
        due("32 before all, age", x.shown(0, 2, 1), NONE);
        due("32 before all, state", x.shown(0, 2, 2), NONE);
        due("32 at its hour", x.shown(0, 3, 0), 0);
        due("32 at its hour, age", x.shown(0, 3, 1), 0);
        due("32 at its hour, state", x.shown(0, 3, 2), 2);
        due("32 over a barred one", x.shown(0, 7, 0), 0);
        due("32 age", x.shown(0, 7, 1), 4);
        due("32 it could be", x.shown(0, 7, 2), 1);
        due("32 gone, shown in a quarrel", x.shown(0, 9, 2), 1);
        due("32 gone, shown", x.shown(0, 12, 0), 2);
        due("32 gone, not any more", x.shown(0, 12, 2), 0);
        due("32 age at now", x.shown(0, 25, 1), 5);
        due("32 state at now", x.shown(0, 25, 2), 1);
        due("32 no view", x.shown(1, 25, 0), NONE);
        due("32 no page", x.shown(2, 26, 3), UNKNOWN);
        due("32 after now", x.shown(0, 26, 0), OUTSIDE);
        due("32 -1", x.shown(0, -1, 0), OUTSIDE);
        due("32 what 3", x.shown(0, 2, 3), OUTSIDE);
        due("32 what -1", x.shown(0, 2, -1), OUTSIDE);
        x.take(2);
        due("32 a hole is not shown", x.shown(0, 12, 0), 0);
    }

    // Promise 33
    private static void since() {
        KeptPages x = pages(0, 1);
        due("33 no page", x.since(2, 60, 2), UNKNOWN);
        due("33 piece 60", x.since(0, 60, 0), OUTSIDE);
        due("33 piece -1", x.since(0, -1, 0), OUTSIDE);
        due("33 what 2", x.since(0, 0, 2), OUTSIDE);
        due("33 what -1", x.since(0, 0, -1), OUTSIDE);
        due("33 no view", x.since(0, 0, 0), NOT);
        dated(x, 10, 0, 0b001, 7);
        due("33 the first view, earliest", x.since(0, 0, 0), 0);
        due("33 the first view, latest", x.since(0, 0, 1), 7);
        seen(x, 14, 0, 0b011);
        seen(x, 18, 0, 0b111);
        due("33 piece 1, earliest", x.since(0, 1, 0), 11);
        due("33 piece 1, latest", x.since(0, 1, 1), 14);
        due("33 piece 2, earliest", x.since(0, 2, 0), 15);
        due("33 piece 3", x.since(0, 3, 0), NOT);
        gone(x, 20, 0);
        due("33 gone says nothing", x.since(0, 0, 0), NOT);
        dated(x, 26, 0, 0b001, 22);
        due("33 since it was gone, earliest", x.since(0, 0, 0), 21);
        due("33 since it was gone, latest", x.since(0, 0, 1), 22);
        due("33 no more", x.since(0, 1, 1), NOT);
        x.take(4);
        dated(x, 30, 0, 0b001, 12);
        due("33 not above the latest", x.since(0, 0, 0), 12);
        due("33 the latest", x.since(0, 0, 1), 12);
        x.take(3);
        due("33 the hole joins the row, earliest", x.since(0, 0, 0), 0);
        due("33 the hole joins the row, latest", x.since(0, 0, 1), 7);
    }

    // Promise 34
    private static void first() {
        KeptPages x = pages(0, 1, 2, 3);
        due("34 piece 60", x.first(60), OUTSIDE);
        due("34 piece -1", x.first(-1), OUTSIDE);
        due("34 nobody", x.first(0), 0);
        seen(x, 5, 0, 0);
        seen(x, 8, 1, 0);
        seen(x, 10, 0, 1);
        seen(x, 12, 1, 1);
        due("34 two may be", x.first(0), 3);
        dated(x, 14, 2, 1, 9);
        due("34 the least latest is 9 now", x.first(0), 7);
        x.take(4);
        seen(x, 15, 2, 2);
        seen(x, 16, 2, 1);
        due("34 earliest 16", x.first(0), 3);
        dated(x, 17, 3, 1, 8);
        due("34 earliest 9 is above 8", x.first(0), 9);
        gone(x, 18, 0);
        due("34 said once", x.first(0), 9);
        seen(x, 19, 3, 1);
        x.take(7);
        due("34 by its first view left", x.first(0), 11);
        due("34 another piece", x.first(1), 4);
        KeptPages y = pages(0, 1);
        seen(y, 3, 0, 1);
        seen(y, 3, 1, 0);
        seen(y, 9, 1, 1);
        due("34 page 0 alone", y.first(0), 1);
    }

    // Promise 35
    private static void nowhere() {
        KeptPages x = pages(0, 1);
        seen(x, 0, 0, 1L << 59 | 0b11);
        due("35 all are said", x.nowhere(), 0);
        x.take(0);
        seen(x, 1, 1, 1);
        seen(x, 2, 1, 0);
        due("35 a page without views says nothing", x.nowhere(), 1);
        x = pages(0, 1);
        seen(x, 0, 0, 1L << 59 | 0b11);
        seen(x, 1, 0, 0b01);
        due("35 two are not", x.nowhere(), 1L << 59 | 0b10);
        seen(x, 2, 1, 0b10);
        due("35 another page says it", x.nowhere(), 1L << 59);
        goTo(x, 3);
        x.look(1, 2, 0, NONE);
        due("35 barred is nothing", x.nowhere(), 1L << 59);
        gone(x, 4, 0);
        due("35 gone says nothing", x.nowhere(), 1L << 59 | 1);
        x.take(0);
        due("35 of holes nothing is known", x.nowhere(), 1);
        x.lose(0, 0);
        due("35 houses aside", x.nowhere(), 1);
    }
}
