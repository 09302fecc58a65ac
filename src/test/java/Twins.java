import java.util.ArrayList;
import java.util.List;
import java.util.function.ToLongFunction;

/** Two objects made alike: what one of them refuses must leave it like the other in all that can be asked. */
final class Twins extends Scene {
    /** A call that must be refused, on a scene made anew for it. */
    record Refused(String call, ToLongFunction<KeptPages> made, long want) {
    }

    private Twins() {
    }

    /** Some of everything: rights, a hole, a barred look, a whole, a program, losses, a fault and a text. */
    static KeptPages rich() {
        KeptPages x = pages(0, 1, 0, 5, 4);
        Checks.rights(x, "let 0 each 2;never 4;night 5;patience 9;clothes 3;");
        seen(x, 0, 0, 0b0111);
        seen(x, 0, 1, 0b0111);
        seen(x, 3, 2, 0b1110);
        gone(x, 5, 1);
        barred(x, 6, 3);
        seen(x, 7, 3, 1L << 59);
        seen(x, 8, 0, 0b0101);
        x.take(2);
        dated(x, 10, 0, 0b0101, 9);
        x.part(0);
        x.part(5);
        Checks.program(x, 1, "row 5 by 2 times 3;ever 1 by 1;");
        x.lose(0, 0);
        x.lose(1, 59);
        Checks.rights(x, "night 77;");
        Checks.feed(x, "night 3;");
        return x;
    }

    /** 12 pages, 100 looks up to the hour 16, 8 places, 200 bytes; the doors 4 and 5 are free again. */
    static KeptPages full() {
        KeptPages x = pages(0, 1, 2, 3, 4, 5, 0, 1, 2, 3, 4, 5);
        for (int l = 0; l < 100; l++) {
            if (l > 0 && l % 6 == 0) {
                x.go(1);
            }
            x.look(l % 12, 0, 1L << l % 60, NONE);
        }
        for (int l = 0; l < 8; l++) {
            x.part(l);
        }
        Checks.feed(x, " ".repeat(200));
        return x;
    }

    /** All that can be asked, and at the end what only a change can show: the text, and which door is let. */
    static List<Long> allOf(KeptPages x) {
        List<Long> all = new ArrayList<>();
        for (int what = 0; what <= 10; what++) all.add((long) x.count(what));
        for (int what = 0; what <= 8; what++) all.add((long) x.right(what));
        for (int what = 0; what <= 5; what++) all.add((long) x.whole(what));
        all.add((long) x.fault());
        all.add(x.nowhere());
        for (int h = 0; h < 3; h++) all.add((long) x.words(h, (h + 1) % 3));
        int pages = x.count(1), looks = x.count(2), now = x.count(0);
        for (int p = 0; p < pages; p++) {
            all.add((long) x.view(p, NONE));
            all.add((long) x.rate(p));
            all.add((long) x.moved(p));
            all.add((long) x.links(p, 200, NONE));
            all.add((long) x.more(p, 3));
            all.add((long) x.sure(p, now));
            all.add((long) x.shown(p, now, 0));
        }
        for (int l = 0; l < looks; l++) {
            all.add(x.pieces(l));
            all.add((long) x.told(l, 5));
        }
        for (int p = 0; p < pages && p < 6; p++) all.add((long) x.look(p, 2, 0, NONE));
        all.add((long) x.mend());
        all.add((long) x.read());
        all.add((long) x.right(6));
        return all;
    }
}
