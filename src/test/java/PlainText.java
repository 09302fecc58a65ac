import java.util.ArrayList;
import java.util.Arrays;
import java.util.HashSet;
import java.util.List;
import java.util.Set;

/** The texts of the document once more: cut into tokens first, then each token held against what may stand there. */
final class PlainText {
    static final class Rights {
        final Set<Integer> never = new HashSet<>();
        final int[] let = {1, 1, 1, 1, 1, 1};
        int night = 8, patience = 24;
        final Set<Integer> clothes = new HashSet<>();
    }

    private record Token(String text, int place) {
        boolean isNumber() {
            return text.matches("[0-9]+");
        }
    }

    /** What may stand: a word or sign, or a number of bounds. */
    private record Slot(String text, int least, int most) {
        static Slot of(String text) {
            return new Slot(text, 0, 0);
        }

        static Slot number(int least, int most) {
            return new Slot(null, least, most);
        }
    }

    final Rights rights = new Rights();
    final List<int[]> clauses = new ArrayList<>();
    int place = -1;
    private final List<Token> tokens = new ArrayList<>();
    private final List<Integer> numbers = new ArrayList<>();
    private final List<Integer> places = new ArrayList<>();
    private int next = 0;
    private int kind = 0;

    PlainText(String text) {
        int i = 0;
        while (i < text.length()) {
            int end = i;
            while (end < text.length() && text.charAt(end) >= 'a' && text.charAt(end) <= 'z') end++;
            if (end == i) {
                while (end < text.length() && text.charAt(end) >= '0' && text.charAt(end) <= '9') end++;
            }
            if (end == i) end++;
            if (text.charAt(i) != ' ') tokens.add(new Token(text.substring(i, end), i));
            i = end;
        }
        tokens.add(new Token("", text.length()));
    }

    private boolean fault(int newKind, int where) {
        kind = newKind;
        place = where;
        return false;
    }

    /** Takes tokens for the slots; a fault ends it. */
    private boolean takes(Slot... slots) {
        for (Slot slot : slots) {
            Token token = tokens.get(next);
            if (slot.text != null) {
                if (!token.text.equals(slot.text)) return fault(1, token.place);
            } else if (!token.isNumber()) {
                return fault(1, token.place);
            } else if (token.text.length() > 3) {
                return fault(2, token.place);
            } else {
                int value = Integer.parseInt(token.text);
                if (value < slot.least || value > slot.most) return fault(2, token.place);
                numbers.add(value);
                places.add(token.place);
            }
            next++;
        }
        return true;
    }

    int asRights() {
        Set<String> told = new HashSet<>();
        int many = 0;
        while (next < tokens.size() - 1) {
            Token word = tokens.get(next);
            numbers.clear();
            places.clear();
            if (!List.of("never", "let", "night", "patience", "clothes").contains(word.text)) {
                fault(1, word.place);
                return -11;
            }
            next++;
            boolean good = switch (word.text) {
                case "never" -> never(told);
                case "let" -> let(told);
                case "clothes" -> once(told, word) && clothes();
                default -> once(told, word) && plain(word.text);
            };
            if (!good || !takes(Slot.of(";"))) return -10 - kind;
            many++;
        }
        return many;
    }

    private boolean once(Set<String> told, Token word) {
        return told.add(word.text) || fault(3, word.place);
    }

    private boolean never(Set<String> told) {
        if (!takes(Slot.number(0, 5))) return false;
        rights.never.add(numbers.get(0));
        return told.add("never " + numbers.get(0)) || fault(3, places.get(0));
    }

    private boolean let(Set<String> told) {
        if (!takes(Slot.number(0, 5))) return false;
        if (!told.add("let " + numbers.get(0))) return fault(3, places.get(0));
        if (!takes(Slot.of("each"), Slot.number(1, 99))) return false;
        rights.let[numbers.get(0)] = numbers.get(1);
        return true;
    }

    private boolean plain(String word) {
        boolean night = word.equals("night");
        if (!takes(night ? Slot.number(1, 12) : Slot.number(0, 999))) return false;
        if (night) rights.night = numbers.get(0);
        else rights.patience = numbers.get(0);
        return true;
    }

    private boolean clothes() {
        while (true) {
            if (!takes(Slot.number(0, 59))) return false;
            int last = numbers.size() - 1;
            if (!rights.clothes.add(numbers.get(last))) return fault(4, places.get(last));
            if (!tokens.get(next).text.equals(",")) return true;
            next++;
        }
    }

    int asProgram() {
        Slot number = Slot.number(0, 999);
        while (next < tokens.size() - 1) {
            Token word = tokens.get(next);
            numbers.clear();
            places.clear();
            Slot[] slots = switch (word.text) {
                case "link" -> new Slot[] {number, Slot.of(";")};
                case "row" -> new Slot[] {number, Slot.of("by"), number, Slot.of("times"), number, Slot.of(";")};
                case "ever" -> new Slot[] {number, Slot.of("by"), number, Slot.of(";")};
                default -> null;
            };
            if (slots == null) fault(1, word.place);
            else if (clauses.size() == 8) fault(5, word.place);
            if (kind != 0) return -10 - kind;
            next++;
            if (!takes(slots)) return -10 - kind;
            int[] clause = Arrays.copyOf(new int[] {word.text.charAt(0)}, 4);
            for (int i = 0; i < numbers.size(); i++) clause[i + 1] = numbers.get(i);
            clauses.add(clause);
        }
        return clauses.size();
    }
}
