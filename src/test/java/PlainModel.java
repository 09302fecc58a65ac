import java.util.ArrayList;
import java.util.Arrays;
import java.util.HashSet;
import java.util.List;
import java.util.Set;
import java.util.TreeSet;

/** The document written a second time, as plainly as it goes: hour by hour, set by set, plan by plan. */
final class PlainModel {
    private static final int NONE = -1, UNKNOWN = -1001, OUTSIDE = -1002, NOT = -1003, FULL = -1004;

    private static final class Seen {
        int number, page, hour, kind, date;
        Set<Integer> pieces = new TreeSet<>();
        boolean out;
    }

    private final List<Integer> doorOfPage = new ArrayList<>();
    private final List<List<int[]>> programs = new ArrayList<>();
    private final List<Seen> looks = new ArrayList<>();
    private final List<Integer> row = new ArrayList<>();
    private final List<Set<Integer>> houses = List.of(new HashSet<>(), new HashSet<>(), new HashSet<>());
    private String text = "";
    private PlainText.Rights rights = new PlainText.Rights();
    private int now = 0;
    private int fault = NONE;

    // ---- pages, looks

    int go(int n) {
        if (n < 0 || n > 500) return OUTSIDE;
        if (now + n > 3000) return NOT;
        return now += n;
    }

    int page(int door) {
        if (door < 0 || door > 5) return UNKNOWN;
        if (doorOfPage.size() == 12) return FULL;
        doorOfPage.add(door);
        programs.add(new ArrayList<>());
        return doorOfPage.size() - 1;
    }

    int look(int p, int kind, long set, int date) {
        if (!isPage(p)) return UNKNOWN;
        if (kind < 0 || kind > 2) return OUTSIDE;
        if (kind == 0 && (set < 0 || set >= 1L << 60 || date != NONE && (date < 0 || date > now))) return OUTSIDE;
        int door = doorOfPage.get(p);
        if (rights.never.contains(door)) return NOT;
        for (Seen s : looks) {
            if (doorOfPage.get(s.page) == door && now - s.hour < rights.let[door]) return NOT;
        }
        if (looks.size() == 100) return FULL;
        Seen s = new Seen();
        s.number = looks.size();
        s.page = p;
        s.hour = now;
        s.kind = kind;
        s.date = kind == 0 ? date : NONE;
        for (int k = 0; k < 60 && kind == 0; k++) {
            if ((set >> k & 1) == 1) s.pieces.add(k);
        }
        looks.add(s);
        for (Set<Integer> house : houses) house.addAll(s.pieces);
        return s.number;
    }

    int take(int l) {
        if (!isLook(l)) return UNKNOWN;
        if (looks.get(l).out) return NOT;
        looks.get(l).out = true;
        row.remove(Integer.valueOf(l));
        return 1;
    }

    int told(int l, int what) {
        if (!isLook(l)) return UNKNOWN;
        if (what < 0 || what > 5) return OUTSIDE;
        Seen s = looks.get(l);
        int none = NONE;
        int[] answers = s.out
            ? new int[] {s.page, s.hour, none, none, none, 1}
            : new int[] {s.page, s.hour, s.kind, s.date, s.pieces.size(), 0};
        return answers[what];
    }

    long pieces(int l) {
        if (!isLook(l)) return UNKNOWN;
        return looks.get(l).out ? 0 : asLong(looks.get(l).pieces);
    }

    int view(int p, int i) {
        if (!isPage(p)) return UNKNOWN;
        List<Seen> views = views(p);
        if (i == NONE) return views.size();
        return i >= 0 && i < views.size() ? views.get(i).number : NONE;
    }

    int count(int what) {
        if (what < 0 || what > 10) return OUTSIDE;
        int holes = 0, views = 0;
        Set<Integer> lost = new HashSet<>();
        for (Seen s : looks) holes += s.out ? 1 : 0;
        for (int p = 0; p < doorOfPage.size(); p++) {
            views += views(p).size();
            for (Seen s : views(p)) lost.addAll(s.pieces);
        }
        for (Set<Integer> house : houses) lost.removeAll(house);
        return new int[] {now, doorOfPage.size(), looks.size(), holes, views, row.size(), text.length(),
            houses.get(0).size(), houses.get(1).size(), houses.get(2).size(), lost.size()}[what];
    }

    // ---- rights

    int feed(int n, long bytes) {
        if (n < 1 || n > 8) return OUTSIDE;
        if (text.length() + n > 200) return FULL;
        for (int i = 0; i < n; i++) {
            text += (char) (bytes >>> 8 * (n - 1 - i) & 0xff);
        }
        return text.length();
    }

    int read() {
        PlainText t = new PlainText(text);
        text = "";
        int answer = t.asRights();
        fault = t.place;
        if (answer >= 0) rights = t.rights;
        return answer;
    }

    int program(int p) {
        if (!isPage(p)) return UNKNOWN;
        if (text.length() > 120) return NOT;
        PlainText t = new PlainText(text);
        text = "";
        int answer = t.asProgram();
        fault = t.place;
        if (answer >= 0) programs.set(p, t.clauses);
        return answer;
    }

    int fault() {
        return fault;
    }

    int right(int what) {
        if (what < 0 || what > 8) return OUTSIDE;
        if (what < 6) return rights.never.contains(what) ? 0 : rights.let[what];
        return new int[] {rights.night, rights.patience, rights.clothes.size()}[what - 6];
    }

    // ---- what it was

    int alike(int l, int k) {
        if (!isView(l) || !isView(k)) return UNKNOWN;
        return alike(looks.get(l), looks.get(k)) ? 1 : 0;
    }

    int sure(int p, int t) {
        if (!isPage(p)) return UNKNOWN;
        if (t < 0 || t > now) return OUTSIDE;
        List<Seen> claiming = claiming(p, t);
        if (claiming.isEmpty()) return NONE;
        return allAlike(claiming) ? claiming.get(0).number : -2;
    }

    int state(int l, int t) {
        if (!isView(l)) return UNKNOWN;
        if (t < 0 || t > now) return OUTSIDE;
        Seen s = looks.get(l);
        List<Seen> claiming = claiming(s.page, t);
        if (!claiming.isEmpty() && allAlike(claiming)) {
            return alike(s, claiming.get(0)) ? 2 : 0;
        }
        List<Seen> could = claiming;
        if (claiming.isEmpty()) {
            could = new ArrayList<>();
            Seen before = null, after = null;
            for (Seen v : views(s.page)) {
                if (v.hour < t) before = v;
                if (v.hour > t && after == null) after = v;
            }
            if (before != null) could.add(before);
            if (after != null) could.add(after);
        }
        for (Seen v : could) {
            if (alike(s, v)) return 1;
        }
        return 0;
    }

    int hours(int l, int a, int b, int what) {
        if (!isView(l)) return UNKNOWN;
        if (a < 0 || b > now || b < a || what < 0 || what > 2) return OUTSIDE;
        int sum = 0;
        for (int t = a; t <= b; t++) sum += state(l, t) == what ? 1 : 0;
        return sum;
    }

    // ---- wholes

    int part(int l) {
        if (!isView(l)) return UNKNOWN;
        if (looks.get(l).kind != 0) return NOT;
        for (int k : row) {
            if (looks.get(k).page == looks.get(l).page) return NOT;
        }
        if (row.size() == 8) return FULL;
        row.add(l);
        return row.size();
    }

    int wipe() {
        int had = row.size();
        row.clear();
        return had;
    }

    int whole(int what) {
        if (what < 0 || what > 5) return OUTSIDE;
        if (row.isEmpty()) return NOT;
        int[][] states = new int[now + 1][];
        for (int t = 0; t <= now; t++) {
            states[t] = new int[row.size()];
            for (int i = 0; i < row.size(); i++) states[t][i] = state(row.get(i), t);
        }
        int first = NONE, hours = 0, could = NONE, nearest = NONE;
        for (int t = 0; t <= now; t++) {
            if (stood(states[t], 0)) {
                if (first == NONE) first = t;
                hours++;
            }
            if (could == NONE && many(states[t], 0) == 0) could = t;
            if (nearest == NONE || isNearer(states[t], states[nearest])) nearest = t;
        }
        if (what == 3) return fewest(states);
        return new int[] {first, hours, could, 0, nearest, many(states[nearest], 2)}[what];
    }

    private static boolean isNearer(int[] states, int[] than) {
        int twos = many(states, 2) - many(than, 2);
        return twos > 0 || twos == 0 && many(states, 0) < many(than, 0);
    }

    private static int many(int[] states, int what) {
        int sum = 0;
        for (int s : states) sum += s == what ? 1 : 0;
        return sum;
    }

    private static boolean stood(int[] states, int without) {
        for (int i = 0; i < states.length; i++) {
            if ((without >> i & 1) == 0 && states[i] != 2) return false;
        }
        return true;
    }

    private int fewest(int[][] states) {
        for (int number = 0; number <= row.size(); number++) {
            for (int set = 0; set < 1 << row.size(); set++) {
                if (Integer.bitCount(set) == number) {
                    for (int[] at : states) {
                        if (stood(at, set)) return set;
                    }
                }
            }
        }
        return NONE;
    }

    int bothWays(int set, int a, int b) {
        if (!arePages(set)) return UNKNOWN;
        if (a < 0 || b > now || b < a) return OUTSIDE;
        for (int m = a; m <= b; m++) {
            boolean all = true;
            for (int p = 0; p < doorOfPage.size(); p++) {
                if ((set >> p & 1) == 1) {
                    List<Seen> there = between(p, a, m), back = between(p, m + 1, b);
                    all &= !there.isEmpty() && !back.isEmpty() && allAlike(between(p, a, b));
                }
            }
            if (all) return m;
        }
        return NONE;
    }

    private List<Seen> between(int p, int a, int b) {
        List<Seen> found = views(p);
        found.removeIf(s -> s.hour < a || s.hour > b);
        return found;
    }

    // ---- rates, nights

    int rate(int p) {
        if (!isPage(p)) return UNKNOWN;
        List<Seen> views = views(p);
        if (views.size() < 2) return NONE;
        int hours = views.get(views.size() - 1).hour - views.get(0).hour;
        if (hours == 0) return NONE;
        int unlike = 0;
        for (int i = 0; i + 1 < views.size(); i++) unlike += alike(views.get(i), views.get(i + 1)) ? 0 : 1;
        return unlike * 1000 / hours;
    }

    private int[] bestPlan;
    private int bestWorth;

    int plan(int set, int i) {
        if (!arePages(set)) return UNKNOWN;
        if (Integer.bitCount(set) > 7 || i < NONE || i > 11) return OUTSIDE;
        return planOf(set)[i + 1];
    }

    /** The worth, then the page of each knock. */
    int[] planOf(int set) {
        bestWorth = -1;
        int[] plan = new int[12];
        Arrays.fill(plan, NONE);
        int[] worths = new int[12];
        for (int p = 0; p < doorOfPage.size(); p++) worths[p] = worth(p);
        tryPlans(set, 0, plan, worths, 0);
        int[] answers = new int[13];
        answers[0] = bestWorth;
        System.arraycopy(bestPlan, 0, answers, 1, 12);
        return answers;
    }

    private int worth(int p) {
        List<Seen> views = views(p);
        if (views.isEmpty()) return 1000;
        return (rate(p) == NONE ? 0 : rate(p)) * (now - views.get(views.size() - 1).hour);
    }

    private void tryPlans(int left, int knock, int[] plan, int[] worths, int worth) {
        if (knock == rights.night) {
            if (worth > bestWorth) {
                bestWorth = worth;
                bestPlan = plan.clone();
            }
            return;
        }
        for (int p = 0; p < doorOfPage.size(); p++) {
            if ((left >> p & 1) == 1 && mayKnock(p, knock, plan)) {
                plan[knock] = p;
                tryPlans(left & ~(1 << p), knock + 1, plan, worths, worth + worths[p]);
                plan[knock] = NONE;
            }
        }
        tryPlans(left, knock + 1, plan, worths, worth);
    }

    private boolean mayKnock(int p, int knock, int[] plan) {
        int door = doorOfPage.get(p);
        if (rights.never.contains(door)) return false;
        for (int k = 0; k < knock; k++) {
            if (plan[k] != NONE && doorOfPage.get(plan[k]) == door && knock - k < rights.let[door]) return false;
        }
        return true;
    }

    // ---- links, likeness

    int links(int p, int purse, int i) {
        if (!isPage(p)) return UNKNOWN;
        if (purse < 0 || purse > 200) return OUTSIDE;
        List<Integer> links = links(p, purse);
        if (i == NONE) return links.size();
        return i >= 0 && i < links.size() ? links.get(i) : NONE;
    }

    int more(int p, int purse) {
        if (!isPage(p)) return UNKNOWN;
        if (purse < 0 || purse > 200) return OUTSIDE;
        for (int[] clause : programs.get(p)) {
            if (clause[0] == 'e') return 2;
        }
        return links(p, 100000).size() > purse ? 1 : 0;
    }

    private List<Integer> links(int p, int purse) {
        List<Integer> links = new ArrayList<>();
        for (int[] clause : programs.get(p)) {
            int times = clause[0] == 'l' ? 1 : clause[0] == 'r' ? clause[3] : Integer.MAX_VALUE;
            int link = clause[1];
            for (int k = 0; k < times && links.size() < purse; k++) {
                links.add(link);
                link += clause[2];
            }
        }
        return links;
    }

    int likeness(int l, int k) {
        if (!isView(l) || !isView(k)) return UNKNOWN;
        if (looks.get(l).kind != 0 || looks.get(k).kind != 0) return NOT;
        return likeness(looks.get(l), looks.get(k));
    }

    private int likeness(Seen one, Seen other) {
        Set<Integer> both = new HashSet<>(bare(one));
        both.retainAll(bare(other));
        Set<Integer> either = new HashSet<>(bare(one));
        either.addAll(bare(other));
        return either.isEmpty() ? 100 : both.size() * 100 / either.size();
    }

    int moved(int p) {
        if (!isPage(p)) return UNKNOWN;
        List<Seen> views = views(p);
        if (views.isEmpty() || views.get(views.size() - 1).kind != 1) return NONE;
        views.removeIf(s -> s.kind != 0);
        if (views.isEmpty()) return NONE;
        int best = NONE, most = 59;
        for (int q = 0; q < doorOfPage.size(); q++) {
            List<Seen> others = views(q);
            if (q == p || others.isEmpty() || others.get(others.size() - 1).kind != 0) continue;
            int like = likeness(views.get(views.size() - 1), others.get(others.size() - 1));
            if (like > most) {
                most = like;
                best = q;
            }
        }
        return best;
    }

    // ---- houses

    int lose(int house, int piece) {
        if (house < 0 || house > 2) return UNKNOWN;
        if (piece < 0 || piece > 59) return OUTSIDE;
        return houses.get(house).remove(piece) ? 1 : NOT;
    }

    int words(int a, int b) {
        if (a < 0 || a > 2 || b < 0 || b > 2) return UNKNOWN;
        if (a == b) return OUTSIDE;
        return words(houses.get(a), houses.get(b), 0, 64);
    }

    private static int words(Set<Integer> one, Set<Integer> other, int from, int to) {
        boolean differ = false;
        for (int k = from; k < to; k++) differ |= one.contains(k) != other.contains(k);
        if (!differ || to - from == 1) return 1;
        int middle = (from + to) / 2;
        return 1 + words(one, other, from, middle) + words(one, other, middle, to);
    }

    int mend() {
        int came = 0;
        for (int piece = 0; piece < 60; piece++) {
            int has = 0;
            for (Set<Integer> house : houses) has += house.contains(piece) ? 1 : 0;
            if (has > 0) {
                for (Set<Integer> house : houses) came += house.add(piece) ? 1 : 0;
            }
        }
        return came;
    }

    // ---- shown

    int shown(int p, int t, int what) {
        if (!isPage(p)) return UNKNOWN;
        if (t < 0 || t > now || what < 0 || what > 2) return OUTSIDE;
        List<Seen> views = between(p, 0, t);
        if (views.isEmpty()) return NONE;
        Seen last = views.get(views.size() - 1);
        return new int[] {last.number, t - last.hour, state(last.number, t)}[what];
    }

    int since(int p, int piece, int what) {
        if (!isPage(p)) return UNKNOWN;
        if (piece < 0 || piece > 59 || what < 0 || what > 1) return OUTSIDE;
        List<Seen> views = views(p);
        int i = views.size();
        while (i > 0 && views.get(i - 1).pieces.contains(piece)) i--;
        if (i == views.size()) return NOT;
        return span(views, i)[what];
    }

    private static int[] span(List<Seen> views, int i) {
        int latest = views.get(i).date != NONE ? views.get(i).date : views.get(i).hour;
        int earliest = i == 0 ? 0 : views.get(i - 1).hour + 1;
        return new int[] {earliest > latest ? latest : earliest, latest};
    }

    int first(int piece) {
        if (piece < 0 || piece > 59) return OUTSIDE;
        int[][] spans = new int[doorOfPage.size()][];
        int least = Integer.MAX_VALUE;
        for (int p = 0; p < spans.length; p++) {
            List<Seen> views = views(p);
            for (int i = views.size() - 1; i >= 0; i--) {
                if (views.get(i).pieces.contains(piece)) spans[p] = span(views, i);
            }
            if (spans[p] != null) least = Math.min(least, spans[p][1]);
        }
        int set = 0;
        for (int p = 0; p < spans.length; p++) {
            if (spans[p] != null && spans[p][0] <= least) set += 1 << p;
        }
        return set;
    }

    long nowhere() {
        Set<Integer> found = new HashSet<>();
        for (int p = 0; p < doorOfPage.size(); p++) {
            for (Seen s : views(p)) found.addAll(s.pieces);
        }
        for (int p = 0; p < doorOfPage.size(); p++) {
            List<Seen> views = views(p);
            if (!views.isEmpty()) found.removeAll(views.get(views.size() - 1).pieces);
        }
        return asLong(found);
    }

    // ---- terms

    private boolean isPage(int p) {
        return p >= 0 && p < doorOfPage.size();
    }

    private boolean arePages(int set) {
        for (int k = 0; k < 32; k++) {
            if ((set >>> k & 1) == 1 && !isPage(k)) return false;
        }
        return true;
    }

    private boolean isLook(int l) {
        return l >= 0 && l < looks.size();
    }

    private boolean isView(int l) {
        return isLook(l) && !looks.get(l).out && looks.get(l).kind != 2;
    }

    private List<Seen> views(int p) {
        List<Seen> found = new ArrayList<>();
        for (Seen s : looks) {
            if (s.page == p && isView(s.number)) found.add(s);
        }
        return found;
    }

    private Set<Integer> bare(Seen s) {
        Set<Integer> left = new TreeSet<>(s.pieces);
        left.removeAll(rights.clothes);
        return left;
    }

    private boolean alike(Seen one, Seen other) {
        if (one.kind != other.kind) return false;
        return one.kind == 1 || bare(one).equals(bare(other));
    }

    private boolean allAlike(List<Seen> views) {
        for (Seen one : views) {
            for (Seen other : views) {
                if (!alike(one, other)) return false;
            }
        }
        return true;
    }

    private List<Seen> claiming(int p, int t) {
        List<Seen> views = views(p), found = new ArrayList<>();
        for (int i = 0; i < views.size(); i++) {
            Seen s = views.get(i);
            boolean claims = t <= s.hour && t >= (s.date == NONE ? s.hour : s.date);
            if (i + 1 < views.size()) {
                Seen next = views.get(i + 1);
                boolean near = next.hour - s.hour <= rights.patience;
                claims |= near && t > s.hour && t < next.hour && alike(s, next);
            }
            if (claims) found.add(s);
        }
        return found;
    }

    private static long asLong(Set<Integer> pieces) {
        long set = 0;
        for (int k : pieces) set |= 1L << k;
        return set;
    }
}
