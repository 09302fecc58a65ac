/** Counts answers that are not as due, and tells them. */
final class Checks {
    private int asked = 0;
    private int wrong = 0;

    void due(String call, long got, long want) {
        asked++;
        if (got != want) {
            wrong++;
            System.out.println(call + " answered " + got + ", due is " + want);
        }
    }

    void holds(String what, boolean truth) {
        due(what, truth ? 1 : 0, 1);
    }

    /** Ends the program: with 1 if there was a wrong answer, or none at all. */
    void end(String name) {
        System.out.println(name + ": " + asked + " answers, " + wrong + " not as due");
        System.exit(wrong == 0 && asked > 0 ? 0 : 1);
    }

    static void feed(KeptPages x, String text) {
        for (int i = 0; i < text.length(); i += 8) {
            int n = Math.min(8, text.length() - i);
            x.feed(n, bytes(text.substring(i, i + n)));
        }
    }

    /** As feed takes them: the first sign in the highest byte. */
    static long bytes(String text) {
        long all = 0;
        for (int i = 0; i < text.length(); i++) {
            all = all << 8 | text.charAt(i);
        }
        return all;
    }

    static int rights(KeptPages x, String text) {
        feed(x, text);
        return x.read();
    }

    static int program(KeptPages x, int p, String text) {
        feed(x, text);
        return x.program(p);
    }
}
