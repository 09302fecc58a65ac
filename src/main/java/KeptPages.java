import java.util.ArrayList;
import java.util.List;

/** Pages that change without saying, kept as they were at looks; ../shared/DOC.md numbers its promises. */
public final class KeptPages {
    public static final int NONE = -1, UNKNOWN = -1001, OUTSIDE = -1002, NOT = -1003, FULL = -1004;

    private static final int LAST_HOUR = 3000, LONGEST_STEP = 500, DOORS = 6;
    private static final int MOST_PAGES = 12, MOST_LOOKS = 100;
    private static final int SEEN = 0, GONE = 1, BARRED = 2;
    private static final int LAST_PIECE = 59;
    private static final long ALL_PIECES = (1L << LAST_PIECE + 1) - 1;
    /** Unlike every SET of pieces, so that a gone view is alike to gone ones alone. */
    private static final long GONE_FORM = -1;
    private static final int QUARREL = -2;
    /** Further back than any let reaches. */
    private static final int LONG_AGO = -1000;
    private static final int CANNOT_STAND = 1, BAD_NUMBER = 2, TOLD_ALREADY = 3, PIECE_AGAIN = 4, NINTH_CLAUSE = 5;
    private static final int FAULT_BASE = -10;
    private static final int MOST_TEXT = 200, MOST_PROGRAM = 120, MOST_CLAUSES = 8, MOST_PURSE = 200;
    private static final int MOST_FIGURES = 3, MOST_NUMBER = 999;
    private static final int MOST_LET = 99, MOST_KNOCKS = 12, FIRST_NIGHT = 8, FIRST_PATIENCE = 24;
    private static final int MOST_PARTS = 8, MOST_PLANNED = 7, WORTH_UNSEEN = 1000;
    private static final int LEAST_LIKENESS = 60;
    private static final int HOUSES = 3, ROW_PLACES = 64;

    private final List<Page> pages = new ArrayList<>();
    private final List<Look> looks = new ArrayList<>();
    private final int[] knocked = {LONG_AGO, LONG_AGO, LONG_AGO, LONG_AGO, LONG_AGO, LONG_AGO};
    private final Text text = new Text();
    private final Whole together = new Whole();
    private final Planner planner = new Planner();
    private final Houses houses = new Houses();
    private Rights rights = new Rights();
    private Rights spareRights = new Rights();
    private Program spareProgram = new Program();
    private int now = 0;
    private int faultPlace = NONE;

    public KeptPages() {
    }

    // ---- pages, looks

    public int go(int n) {
        if (n < 0 || n > LONGEST_STEP) {
            return OUTSIDE;
        }
        if (now + n > LAST_HOUR) {
            return NOT;
        }
        now += n;
        return now;
    }

    public int page(int door) {
        if (door < 0 || door >= DOORS) {
            return UNKNOWN;
        }
        if (pages.size() >= MOST_PAGES) {
            return FULL;
        }
        pages.add(new Page(pages.size(), door));
        return pages.size() - 1;
    }

    public int look(int p, int kind, long set, int date) {
        Page page = pageAt(p);
        if (page == null) {
            return UNKNOWN;
        }
        if (kind < SEEN || kind > BARRED) {
            return OUTSIDE;
        }
        boolean seen = kind == SEEN;
        if (seen && ((set & ~ALL_PIECES) != 0 || date < NONE || date > now)) {
            return OUTSIDE;
        }
        if (!rights.allow(page.door, now - knocked[page.door])) {
            return NOT;
        }
        if (looks.size() >= MOST_LOOKS) {
            return FULL;
        }
        Look look = new Look(looks.size(), page, now);
        look.tell(kind, seen ? set : 0, seen ? date : NONE);
        keep(look);
        return look.number;
    }

    public int take(int l) {
        Look look = lookAt(l);
        if (look == null) {
            return UNKNOWN;
        }
        if (look.out) {
            return NOT;
        }
        look.home.drop(look);
        together.drop(look);
        look.takeOut();
        return 1;
    }

    public int told(int l, int what) {
        Look look = lookAt(l);
        if (look == null) {
            return UNKNOWN;
        }
        switch (what) {
            case 0:
                return look.home.number;
            case 1:
                return look.hour;
            case 2:
                return look.kind;
            case 3:
                return look.date;
            case 4:
                return look.out ? NONE : Long.bitCount(look.pieces);
            case 5:
                return look.out ? 1 : 0;
            default:
                return OUTSIDE;
        }
    }

    public long pieces(int l) {
        Look look = lookAt(l);
        return look == null ? UNKNOWN : look.pieces;
    }

    public int view(int p, int i) {
        Page page = pageAt(p);
        if (page == null) {
            return UNKNOWN;
        }
        if (i == NONE) {
            return page.views.size();
        }
        return i < 0 || i >= page.views.size() ? NONE : page.views.get(i).number;
    }

    public int count(int what) {
        switch (what) {
            case 0:
                return now;
            case 1:
                return pages.size();
            case 2:
                return looks.size();
            case 3:
                return holes();
            case 4:
                return allViews();
            case 5:
                return together.row.size();
            case 6:
                return text.length;
            case 7:
            case 8:
            case 9:
                return Long.bitCount(houses.keptIn(what - 7));
            case 10:
                return Long.bitCount(piecesEver() & ~houses.keptInAny());
            default:
                return OUTSIDE;
        }
    }

    // ---- rights

    public int feed(int n, long bytes) {
        if (n < 1 || n > 8) {
            return OUTSIDE;
        }
        return text.append(n, bytes) ? text.length : FULL;
    }

    public int read() {
        text.open();
        int clauses = spareRights.readFrom(text);
        if (text.faultKind == 0) {
            Rights old = rights;
            rights = spareRights;
            spareRights = old;
        }
        return closeText(clauses);
    }

    public int program(int p) {
        Page page = pageAt(p);
        if (page == null) {
            return UNKNOWN;
        }
        if (text.length > MOST_PROGRAM) {
            return NOT;
        }
        text.open();
        int clauses = spareProgram.readFrom(text);
        if (text.faultKind == 0) {
            Program old = page.program;
            page.program = spareProgram;
            spareProgram = old;
        }
        return closeText(clauses);
    }

    public int fault() {
        return faultPlace;
    }

    public int right(int what) {
        if (what < 0 || what > 8) {
            return OUTSIDE;
        }
        if (what < DOORS) {
            return rights.letOf(what);
        }
        if (what == 6) {
            return rights.night;
        }
        return what == 7 ? rights.patience : Long.bitCount(rights.clothes);
    }

    // ---- what it was

    public int alike(int l, int k) {
        Look one = viewAt(l);
        Look other = viewAt(k);
        if (one == null || other == null) {
            return UNKNOWN;
        }
        return rights.sameForm(one, other) ? 1 : 0;
    }

    public int sure(int p, int t) {
        Page page = pageAt(p);
        if (page == null) {
            return UNKNOWN;
        }
        return isHour(t) ? page.sureAt(t, rights) : OUTSIDE;
    }

    public int state(int l, int t) {
        Look look = viewAt(l);
        if (look == null) {
            return UNKNOWN;
        }
        return isHour(t) ? look.home.stateAt(look, t, rights) : OUTSIDE;
    }

    public int hours(int l, int a, int b, int what) {
        Look look = viewAt(l);
        if (look == null) {
            return UNKNOWN;
        }
        if (!isSpan(a, b) || what < 0 || what > 2) {
            return OUTSIDE;
        }
        int found = 0;
        for (int t = a; t <= b; ) {
            int next = Math.max(t + 1, Math.min(b + 1, look.home.nextChange(t)));
            if (look.home.stateAt(look, t, rights) == what) {
                found += next - t;
            }
            t = next;
        }
        return found;
    }

    // ---- wholes

    public int part(int l) {
        Look look = viewAt(l);
        if (look == null) {
            return UNKNOWN;
        }
        if (!look.isSeen() || together.hasPage(look.home)) {
            return NOT;
        }
        if (together.row.size() >= MOST_PARTS) {
            return FULL;
        }
        together.row.add(look);
        return together.row.size();
    }

    public int wipe() {
        int had = together.row.size();
        together.row.clear();
        return had;
    }

    public int whole(int what) {
        if (what < 0 || what > 5) {
            return OUTSIDE;
        }
        if (together.row.isEmpty()) {
            return NOT;
        }
        together.weigh(now, rights);
        return together.answer(what);
    }

    public int bothWays(int set, int a, int b) {
        if (!arePages(set)) {
            return UNKNOWN;
        }
        if (!isSpan(a, b)) {
            return OUTSIDE;
        }
        int middle = a;
        int leastLast = b + 1;
        for (int p = 0; p < pages.size(); p++) {
            if ((set >> p & 1) != 0) {
                // One of them may lie outside a to b: then first is not before last, and the answer is NONE.
                Look first = pages.get(p).firstFrom(a);
                Look last = pages.get(p).lastUpTo(b);
                if (first == null || last == null || !pages.get(p).alikeWithin(a, b, rights)) {
                    return NONE;
                }
                middle = Math.max(middle, first.hour);
                leastLast = Math.min(leastLast, last.hour);
            }
        }
        return middle < leastLast ? middle : NONE;
    }

    // ---- rates, nights

    public int rate(int p) {
        Page page = pageAt(p);
        return page == null ? UNKNOWN : page.changeRate(rights);
    }

    public int plan(int set, int i) {
        if (!arePages(set)) {
            return UNKNOWN;
        }
        if (Integer.bitCount(set) > MOST_PLANNED || i < NONE || i >= MOST_KNOCKS) {
            return OUTSIDE;
        }
        planner.open(rights);
        for (int p = 0; p < pages.size(); p++) {
            if ((set >> p & 1) != 0) {
                planner.offer(pages.get(p), pages.get(p).worthAt(now, rights), rights);
            }
        }
        planner.settle();
        return i == NONE ? planner.bestWorth : planner.best[i];
    }

    // ---- links, likeness

    public int links(int p, int purse, int i) {
        Page page = pageAt(p);
        if (page == null) {
            return UNKNOWN;
        }
        if (purse < 0 || purse > MOST_PURSE) {
            return OUTSIDE;
        }
        int told = page.program.endless ? purse : Math.min(purse, page.program.total());
        if (i == NONE) {
            return told;
        }
        return i < 0 || i >= told ? NONE : page.program.linkAt(i);
    }

    public int more(int p, int purse) {
        Page page = pageAt(p);
        if (page == null) {
            return UNKNOWN;
        }
        if (purse < 0 || purse > MOST_PURSE) {
            return OUTSIDE;
        }
        if (page.program.endless) {
            return 2;
        }
        return page.program.total() > purse ? 1 : 0;
    }

    public int likeness(int l, int k) {
        Look one = viewAt(l);
        Look other = viewAt(k);
        if (one == null || other == null) {
            return UNKNOWN;
        }
        return one.isSeen() && other.isSeen() ? rights.likenessOf(one, other) : NOT;
    }

    public int moved(int p) {
        Page page = pageAt(p);
        if (page == null) {
            return UNKNOWN;
        }
        Look seen = page.lastSeen();
        if (seen == null || seen == page.lastView()) {
            return NONE;
        }
        int nearest = NONE;
        int most = LEAST_LIKENESS - 1;
        for (int q = 0; q < pages.size(); q++) {
            Look last = pages.get(q).lastView();
            // The page itself is left out by this too: its own last view is gone.
            if (last != null && last.isSeen() && rights.likenessOf(seen, last) > most) {
                most = rights.likenessOf(seen, last);
                nearest = q;
            }
        }
        return nearest;
    }

    // ---- houses

    public int lose(int house, int piece) {
        if (house < 0 || house >= HOUSES) {
            return UNKNOWN;
        }
        if (!isPiece(piece)) {
            return OUTSIDE;
        }
        return houses.drop(house, piece) ? 1 : NOT;
    }

    public int words(int a, int b) {
        if (a < 0 || a >= HOUSES || b < 0 || b >= HOUSES) {
            return UNKNOWN;
        }
        return a == b ? OUTSIDE : houses.sentBetween(a, b);
    }

    public int mend() {
        return houses.level();
    }

    // ---- shown

    public int shown(int p, int t, int what) {
        Page page = pageAt(p);
        if (page == null) {
            return UNKNOWN;
        }
        if (!isHour(t) || what < 0 || what > 2) {
            return OUTSIDE;
        }
        Look look = page.lastUpTo(t);
        if (look == null) {
            return NONE;
        }
        if (what == 0) {
            return look.number;
        }
        return what == 1 ? t - look.hour : page.stateAt(look, t, rights);
    }

    public int since(int p, int piece, int what) {
        Page page = pageAt(p);
        if (page == null) {
            return UNKNOWN;
        }
        if (!isPiece(piece) || what < 0 || what > 1) {
            return OUTSIDE;
        }
        int i = page.sayingFrom(piece);
        if (i == NONE) {
            return NOT;
        }
        return what == 0 ? page.earliest(i) : page.latest(i);
    }

    public int first(int piece) {
        if (!isPiece(piece)) {
            return OUTSIDE;
        }
        int leastLatest = LAST_HOUR;
        for (int p = 0; p < pages.size(); p++) {
            int i = pages.get(p).firstWith(piece);
            if (i != NONE) {
                leastLatest = Math.min(leastLatest, pages.get(p).latest(i));
            }
        }
        int set = 0;
        for (int p = 0; p < pages.size(); p++) {
            int i = pages.get(p).firstWith(piece);
            if (i != NONE && pages.get(p).earliest(i) <= leastLatest) {
                set |= 1 << p;
            }
        }
        return set;
    }

    public long nowhere() {
        long said = 0;
        for (int p = 0; p < pages.size(); p++) {
            Look last = pages.get(p).lastView();
            said |= last == null ? 0 : last.pieces;
        }
        return piecesEver() & ~said;
    }

    // ---- what the calls share

    private Page pageAt(int p) {
        return p < 0 || p >= pages.size() ? null : pages.get(p);
    }

    private Look lookAt(int l) {
        return l < 0 || l >= looks.size() ? null : looks.get(l);
    }

    private Look viewAt(int l) {
        Look look = lookAt(l);
        return look == null || !look.isView() ? null : look;
    }

    private boolean arePages(int set) {
        return (set & ~((1 << pages.size()) - 1)) == 0;
    }

    private boolean isHour(int t) {
        return t >= 0 && t <= now;
    }

    private boolean isSpan(int a, int b) {
        return isHour(a) && isHour(b) && a <= b;
    }

    private static boolean isPiece(int piece) {
        return piece >= 0 && piece <= LAST_PIECE;
    }

    private void keep(Look look) {
        looks.add(look);
        if (look.isView()) {
            look.home.views.add(look);
        }
        knocked[look.home.door] = now;
        houses.bring(look.pieces);
    }

    private int holes() {
        int found = 0;
        for (int l = 0; l < looks.size(); l++) {
            found += looks.get(l).out ? 1 : 0;
        }
        return found;
    }

    private int allViews() {
        int found = 0;
        for (int p = 0; p < pages.size(); p++) {
            found += pages.get(p).views.size();
        }
        return found;
    }

    /** Barred looks and holes hold no pieces, so all looks tell what the views have. */
    private long piecesEver() {
        long set = 0;
        for (int l = 0; l < looks.size(); l++) {
            set |= looks.get(l).pieces;
        }
        return set;
    }

    private int closeText(int clauses) {
        faultPlace = text.faultPlace;
        text.length = 0;
        return text.faultKind == 0 ? clauses : FAULT_BASE - text.faultKind;
    }

    /** A look at a page. Taken out it is a hole, and what it told is NONE. */
    private static final class Look {
        final int number;
        final Page home;
        final int hour;
        int kind = BARRED;
        int date = NONE;
        long pieces = 0;
        boolean out = false;

        Look(int number, Page home, int hour) {
            this.number = number;
            this.home = home;
            this.hour = hour;
        }

        void tell(int newKind, long newPieces, int newDate) {
            kind = newKind;
            pieces = newPieces;
            date = newDate;
        }

        void takeOut() {
            tell(NONE, 0, NONE);
            out = true;
        }

        boolean isView() {
            return kind == SEEN || kind == GONE;
        }

        boolean isSeen() {
            return kind == SEEN;
        }

        boolean has(int piece) {
            return (pieces >> piece & 1) != 0;
        }

        int start() {
            return date == NONE ? hour : date;
        }

        long form(long clothes) {
            return kind == GONE ? GONE_FORM : pieces & ~clothes;
        }
    }

    /** A page with its views by hours; a door lets one knock an hour in, so no two are of one hour. */
    private static final class Page {
        final int number;
        final int door;
        final List<Look> views = new ArrayList<>();
        Program program = new Program();

        Page(int number, int door) {
            this.number = number;
            this.door = door;
        }

        void drop(Look look) {
            for (int i = views.size() - 1; i >= 0; i--) {
                if (views.get(i) == look) {
                    views.remove(i);
                }
            }
        }

        Look lastView() {
            return views.isEmpty() ? null : views.get(views.size() - 1);
        }

        Look lastSeen() {
            for (int i = views.size() - 1; i >= 0; i--) {
                if (views.get(i).isSeen()) {
                    return views.get(i);
                }
            }
            return null;
        }

        Look lastUpTo(int t) {
            for (int i = views.size() - 1; i >= 0; i--) {
                if (views.get(i).hour <= t) {
                    return views.get(i);
                }
            }
            return null;
        }

        Look firstFrom(int t) {
            for (int i = 0; i < views.size(); i++) {
                if (views.get(i).hour >= t) {
                    return views.get(i);
                }
            }
            return null;
        }

        /** The hours up to the next view are this one's too, if both are alike and near. */
        private boolean claims(int i, int t, Rights rights) {
            Look look = views.get(i);
            if (t <= look.hour) {
                return t >= look.start();
            }
            if (i + 1 >= views.size()) {
                return false;
            }
            Look next = views.get(i + 1);
            return t < next.hour && next.hour - look.hour <= rights.patience && rights.sameForm(look, next);
        }

        int sureAt(int t, Rights rights) {
            Look found = null;
            for (int i = 0; i < views.size(); i++) {
                if (claims(i, t, rights)) {
                    if (found == null) {
                        found = views.get(i);
                    } else if (!rights.sameForm(found, views.get(i))) {
                        return QUARREL;
                    }
                }
            }
            return found == null ? NONE : found.number;
        }

        int stateAt(Look as, int t, Rights rights) {
            boolean like = false;
            boolean unlike = false;
            for (int i = 0; i < views.size(); i++) {
                if (claims(i, t, rights)) {
                    boolean same = rights.sameForm(as, views.get(i));
                    like |= same;
                    unlike |= !same;
                }
            }
            if (!like && !unlike) {
                return couldUnclaimed(as, t, rights) ? 1 : 0;
            }
            if (!like) {
                return 0;
            }
            return unlike ? 1 : 2;
        }

        /** A view claims its own hour, so at an hour that none claims all views are before or after it. */
        private boolean couldUnclaimed(Look as, int t, Rights rights) {
            Look before = lastUpTo(t);
            Look after = firstFrom(t);
            return before != null && rights.sameForm(as, before) || after != null && rights.sameForm(as, after);
        }

        /** The first hour after t at which the states may be others: between two such hours they stay. */
        int nextChange(int t) {
            int next = LAST_HOUR + 1;
            for (int i = 0; i < views.size(); i++) {
                Look look = views.get(i);
                next = sooner(look.start(), t, next);
                next = sooner(look.hour, t, next);
                next = sooner(look.hour + 1, t, next);
            }
            return next;
        }

        private static int sooner(int change, int t, int next) {
            return change > t && change < next ? change : next;
        }

        boolean alikeWithin(int a, int b, Rights rights) {
            Look one = firstFrom(a);
            for (int i = 0; i < views.size(); i++) {
                Look look = views.get(i);
                if (look.hour >= a && look.hour <= b && (one == null || !rights.sameForm(one, look))) {
                    return false;
                }
            }
            return true;
        }

        int changeRate(Rights rights) {
            if (views.size() < 2) {
                return NONE;
            }
            int span = views.get(views.size() - 1).hour - views.get(0).hour;
            int changes = 0;
            for (int i = 1; i < views.size(); i++) {
                changes += rights.sameForm(views.get(i - 1), views.get(i)) ? 0 : 1;
            }
            return span <= 0 ? NONE : changes * 1000 / span;
        }

        int worthAt(int now, Rights rights) {
            Look last = lastView();
            if (last == null) {
                return WORTH_UNSEEN;
            }
            return Math.max(0, changeRate(rights)) * (now - last.hour);
        }

        /** The first place of the row of views at the end that all have the piece. */
        int sayingFrom(int piece) {
            int from = NONE;
            for (int i = views.size() - 1; i >= 0 && views.get(i).has(piece); i--) {
                from = i;
            }
            return from;
        }

        int firstWith(int piece) {
            for (int i = 0; i < views.size(); i++) {
                if (views.get(i).has(piece)) {
                    return i;
                }
            }
            return NONE;
        }

        int latest(int i) {
            return i < 0 || i >= views.size() ? NONE : views.get(i).start();
        }

        int earliest(int i) {
            return i < 1 || i >= views.size() ? 0 : Math.min(latest(i), views.get(i - 1).hour + 1);
        }
    }

    /** What doors let in, how long a night is, and what counts as alike. */
    private static final class Rights {
        private static final int NIGHT_TOLD = 1, PATIENCE_TOLD = 2, CLOTHES_TOLD = 4;

        private final int[] lets = {1, 1, 1, 1, 1, 1};
        private int nevers = 0;
        private int letsTold = 0;
        private int clausesTold = 0;
        int night = FIRST_NIGHT;
        int patience = FIRST_PATIENCE;
        long clothes = 0;

        private void becomeFirst() {
            for (int door = 0; door < lets.length; door++) {
                lets[door] = 1;
            }
            nevers = 0;
            letsTold = 0;
            clausesTold = 0;
            night = FIRST_NIGHT;
            patience = FIRST_PATIENCE;
            clothes = 0;
        }

        /** Answers how many clauses there are, and leaves in the text what fault it has. */
        int readFrom(Text text) {
            becomeFirst();
            int clauses = 0;
            while (clauses < MOST_TEXT && text.goesOn()) {
                readClause(text);
                clauses++;
            }
            return clauses;
        }

        private void readClause(Text text) {
            int place = text.nextPlace();
            if (text.passWord("never")) {
                nevers |= readDoor(text, nevers);
            } else if (text.passWord("let")) {
                readLet(text);
            } else if (text.passWord("night")) {
                tellOnce(NIGHT_TOLD, place, text);
                night = text.takeNumber(1, MOST_KNOCKS);
            } else if (text.passWord("patience")) {
                tellOnce(PATIENCE_TOLD, place, text);
                patience = text.takeNumber(0, MOST_NUMBER);
            } else if (text.passWord("clothes")) {
                tellOnce(CLOTHES_TOLD, place, text);
                readClothes(text);
            } else {
                text.fail(CANNOT_STAND, place);
            }
            text.takeSign(';');
        }

        private void tellOnce(int clause, int place, Text text) {
            if ((clausesTold & clause) != 0) {
                text.fail(TOLD_ALREADY, place);
            }
            clausesTold |= clause;
        }

        /** Answers the door as a SET of one; a door of those told already is a fault. */
        private static int readDoor(Text text, int toldAlready) {
            int place = text.nextPlace();
            int bit = 1 << text.takeNumber(0, DOORS - 1);
            if ((toldAlready & bit) != 0) {
                text.fail(TOLD_ALREADY, place);
            }
            return bit;
        }

        private void readLet(Text text) {
            int bit = readDoor(text, letsTold);
            letsTold |= bit;
            text.takeWord("each");
            int hours = text.takeNumber(1, MOST_LET);
            for (int door = 0; door < lets.length; door++) {
                lets[door] = bit == 1 << door ? hours : lets[door];
            }
        }

        private void readClothes(Text text) {
            for (int i = 0; i < MOST_TEXT; i++) {
                int place = text.nextPlace();
                long bit = 1L << text.takeNumber(0, LAST_PIECE);
                if ((clothes & bit) != 0) {
                    text.fail(PIECE_AGAIN, place);
                }
                clothes |= bit;
                if (!text.passSign(',')) {
                    return;
                }
            }
        }

        /** The hours between two knocks at a door; 0: never. */
        int letOf(int door) {
            return door < 0 || door >= lets.length || (nevers >> door & 1) != 0 ? 0 : lets[door];
        }

        boolean allow(int door, int hoursAgo) {
            return letOf(door) != 0 && hoursAgo >= letOf(door);
        }

        boolean sameForm(Look one, Look other) {
            return one.form(clothes) == other.form(clothes);
        }

        /** Of two seen looks. */
        int likenessOf(Look one, Look other) {
            int either = Long.bitCount((one.pieces | other.pieces) & ~clothes);
            int both = Long.bitCount(one.pieces & other.pieces & ~clothes);
            return either == 0 ? 100 : both * 100 / either;
        }
    }

    /** Bytes gone through from left to right up to the first fault: behind it nothing is taken any more. */
    private static final class Text {
        private final int[] bytes = new int[MOST_TEXT];
        int length = 0;
        private int place = 0;
        int faultKind = 0;
        int faultPlace = NONE;

        boolean append(int n, long more) {
            if (length + n > MOST_TEXT) {
                return false;
            }
            for (int i = n - 1; i >= 0; i--) {
                bytes[length] = (int) (more >> 8 * i & 255);
                length++;
            }
            return true;
        }

        void open() {
            place = 0;
            faultKind = 0;
            faultPlace = NONE;
        }

        void fail(int kind, int where) {
            if (faultKind == 0) {
                faultKind = kind;
                faultPlace = where;
            }
        }

        private int byteAt(int i) {
            return i < 0 || i >= length || i >= bytes.length ? NONE : bytes[i];
        }

        private static boolean isLetter(int sign) {
            return sign >= 'a' && sign <= 'z';
        }

        private static boolean isFigure(int sign) {
            return sign >= '0' && sign <= '9';
        }

        /** Where the next sign, word or number begins, or the end. */
        int nextPlace() {
            while (place < length && place < bytes.length && bytes[place] == ' ') {
                place++;
            }
            return place;
        }

        boolean goesOn() {
            return faultKind == 0 && nextPlace() < length;
        }

        /** Goes behind the word if just this one stands here. */
        boolean passWord(String word) {
            int from = nextPlace();
            for (int i = 0; i < word.length(); i++) {
                if (byteAt(from + i) != word.charAt(i)) {
                    return false;
                }
            }
            if (faultKind != 0 || isLetter(byteAt(from + word.length()))) {
                return false;
            }
            place = from + word.length();
            return true;
        }

        boolean passSign(char sign) {
            if (faultKind != 0 || byteAt(nextPlace()) != sign) {
                return false;
            }
            place++;
            return true;
        }

        void takeWord(String word) {
            if (!passWord(word)) {
                fail(CANNOT_STAND, place);
            }
        }

        void takeSign(char sign) {
            if (!passSign(sign)) {
                fail(CANNOT_STAND, place);
            }
        }

        /** Answers within the bounds even where there is a fault, so that nobody need ask. */
        int takeNumber(int least, int most) {
            int from = nextPlace();
            int value = 0;
            int end = from;
            while (end < length && isFigure(byteAt(end))) {
                value = Math.min(MOST_NUMBER + 1, value * 10 + byteAt(end) - '0');
                end++;
            }
            if (end == from) {
                fail(CANNOT_STAND, from);
            } else if (end - from > MOST_FIGURES || value < least || value > most) {
                fail(BAD_NUMBER, from);
            }
            if (faultKind != 0) {
                return least;
            }
            place = end;
            return value;
        }
    }

    /** Clauses that tell links: each so many, from one number on by steps; an endless one tells all that is left. */
    private static final class Program {
        private static final int ENDLESS = -1;

        private final int[] starts = new int[MOST_CLAUSES];
        private final int[] steps = new int[MOST_CLAUSES];
        private final int[] times = new int[MOST_CLAUSES];
        private int size = 0;
        boolean endless = false;

        /** Answers how many clauses there are, and leaves in the text what fault it has. */
        int readFrom(Text text) {
            size = 0;
            endless = false;
            while (size < MOST_CLAUSES && text.goesOn()) {
                readClause(text);
                size++;
            }
            if (text.goesOn()) {
                failBehindLast(text);
            }
            return size;
        }

        private void readClause(Text text) {
            int place = text.nextPlace();
            if (text.passWord("link")) {
                put(text.takeNumber(0, MOST_NUMBER), 0, 1);
            } else if (text.passWord("row")) {
                int start = text.takeNumber(0, MOST_NUMBER);
                int step = takeBehind("by", text);
                put(start, step, takeBehind("times", text));
            } else if (text.passWord("ever")) {
                int start = text.takeNumber(0, MOST_NUMBER);
                put(start, takeBehind("by", text), ENDLESS);
                endless = true;
            } else {
                text.fail(CANNOT_STAND, place);
            }
            text.takeSign(';');
        }

        private static int takeBehind(String word, Text text) {
            text.takeWord(word);
            return text.takeNumber(0, MOST_NUMBER);
        }

        private void put(int start, int step, int often) {
            if (size < MOST_CLAUSES) {
                starts[size] = start;
                steps[size] = step;
                times[size] = often;
            }
        }

        private static void failBehindLast(Text text) {
            int place = text.nextPlace();
            boolean clause = text.passWord("link") || text.passWord("row") || text.passWord("ever");
            text.fail(clause ? NINTH_CLAUSE : CANNOT_STAND, place);
        }

        /** How many links there are, if none is endless. */
        int total() {
            int sum = 0;
            for (int i = 0; i < size; i++) {
                sum += times[i];
            }
            return sum;
        }

        int linkAt(int i) {
            int left = i;
            for (int c = 0; c < size; c++) {
                if (times[c] == ENDLESS || left < times[c]) {
                    return starts[c] + steps[c] * left;
                }
                left -= times[c];
            }
            return NONE;
        }
    }

    /** Views that may have stood together; weigh() goes through the hours once for all answers. */
    private static final class Whole {
        final List<Look> row = new ArrayList<>();
        private final int[] states = new int[MOST_PARTS];
        private final int[] statesUntil = new int[MOST_PARTS];
        private int firstStood, hoursStood, firstCould, fewest, nearest, mostSure, leastNot;

        boolean hasPage(Page page) {
            for (int i = 0; i < row.size(); i++) {
                if (row.get(i).home == page) {
                    return true;
                }
            }
            return false;
        }

        void drop(Look look) {
            for (int i = row.size() - 1; i >= 0; i--) {
                if (row.get(i) == look) {
                    row.remove(i);
                }
            }
        }

        void weigh(int now, Rights rights) {
            firstStood = NONE;
            hoursStood = 0;
            firstCould = NONE;
            fewest = (1 << row.size()) - 1;
            nearest = 0;
            mostSure = NONE;
            leastNot = 0;
            for (int i = 0; i < MOST_PARTS; i++) {
                statesUntil[i] = 0;
            }
            for (int t = 0; t <= now; ) {
                int next = Math.max(t + 1, Math.min(now + 1, stepTo(t, rights)));
                weighHours(t, next);
                t = next;
            }
        }

        /** Brings the states to the hour t, and answers the first hour after it at which one may be another. */
        private int stepTo(int t, Rights rights) {
            int next = LAST_HOUR + 1;
            for (int i = 0; i < row.size() && i < MOST_PARTS; i++) {
                if (statesUntil[i] <= t) {
                    Look look = row.get(i);
                    states[i] = look.home.stateAt(look, t, rights);
                    statesUntil[i] = look.home.nextChange(t);
                }
                next = Math.min(next, statesUntil[i]);
            }
            return next;
        }

        /** The states are the same at all hours from t on until next. */
        private void weighHours(int t, int next) {
            int unsure = 0;
            int nots = 0;
            for (int i = 0; i < row.size() && i < MOST_PARTS; i++) {
                unsure |= states[i] == 2 ? 0 : 1 << i;
                nots += states[i] == 0 ? 1 : 0;
            }
            if (unsure == 0) {
                firstStood = firstStood == NONE ? t : firstStood;
                hoursStood += next - t;
            }
            if (nots == 0 && firstCould == NONE) {
                firstCould = t;
            }
            if (isFewer(unsure, fewest)) {
                fewest = unsure;
            }
            int sure = row.size() - Integer.bitCount(unsure);
            if (sure > mostSure || sure == mostSure && nots < leastNot) {
                nearest = t;
                mostSure = sure;
                leastNot = nots;
            }
        }

        private static boolean isFewer(int set, int than) {
            int more = Integer.bitCount(set) - Integer.bitCount(than);
            return more < 0 || more == 0 && set < than;
        }

        int answer(int what) {
            switch (what) {
                case 0:
                    return firstStood;
                case 1:
                    return hoursStood;
                case 2:
                    return firstCould;
                case 3:
                    return fewest;
                case 4:
                    return nearest;
                default:
                    return mostSure;
            }
        }
    }

    /**
     * The best plan of a night. It tries the plans in their order, so the first of the most worth stays; what can't
     * come above the best so far is left out.
     */
    private static final class Planner {
        private final int[] numbers = new int[MOST_PLANNED];
        private final int[] doors = new int[MOST_PLANNED];
        private final int[] worths = new int[MOST_PLANNED];
        private final int[] byWorth = new int[MOST_PLANNED];
        private final int[] lets = new int[DOORS];
        private final int[] freeFrom = new int[DOORS];
        private final int[] room = new int[DOORS];
        private final int[] tried = new int[MOST_KNOCKS];
        final int[] best = new int[MOST_KNOCKS];
        int bestWorth = 0;
        private int size = 0;
        private int night = 0;

        void open(Rights rights) {
            size = 0;
            night = rights.night;
            for (int door = 0; door < DOORS; door++) {
                lets[door] = rights.letOf(door);
                freeFrom[door] = 0;
            }
            for (int i = 0; i < MOST_KNOCKS; i++) {
                tried[i] = NONE;
                best[i] = NONE;
            }
        }

        /** Pages come by their numbers; those behind a door of never are no part of any plan. */
        void offer(Page page, int worth, Rights rights) {
            if (size >= MOST_PLANNED || rights.letOf(page.door) == 0) {
                return;
            }
            numbers[size] = page.number;
            doors[size] = page.door;
            worths[size] = worth;
            int place = size;
            while (place > 0 && worths[byWorth[place - 1]] < worth) {
                byWorth[place] = byWorth[place - 1];
                place--;
            }
            byWorth[place] = size;
            size++;
        }

        void settle() {
            bestWorth = NONE;
            search(0, 0, 0);
        }

        private void search(int knock, int gone, int worth) {
            if (knock >= night || knock >= MOST_KNOCKS) {
                keepIfBetter(worth);
                return;
            }
            if (worth + mostFrom(knock, gone) <= bestWorth) {
                return;
            }
            for (int i = 0; i < size; i++) {
                if ((gone >> i & 1) == 0 && freeFrom[doors[i]] <= knock && !isBehindBetter(i, gone)) {
                    searchWith(i, knock, gone, worth);
                }
            }
            tried[knock] = NONE;
            search(knock + 1, gone, worth);
        }

        private void searchWith(int i, int knock, int gone, int worth) {
            int door = doors[i];
            int free = freeFrom[door];
            freeFrom[door] = knock + lets[door];
            tried[knock] = numbers[i];
            search(knock + 1, gone | upToOfDoor(i), worth + worths[i]);
            freeFrom[door] = free;
        }

        private void keepIfBetter(int worth) {
            if (worth > bestWorth) {
                bestWorth = worth;
                System.arraycopy(tried, 0, best, 0, MOST_KNOCKS);
            }
        }

        /** With an earlier page of the same door and no less worth in its stead a plan is better, or ahead. */
        private boolean isBehindBetter(int i, int gone) {
            for (int j = 0; j < i; j++) {
                if ((gone >> j & 1) == 0 && doors[j] == doors[i] && worths[j] >= worths[i]) {
                    return true;
                }
            }
            return false;
        }

        /** Pages of one door come by their numbers in the first of like plans, so earlier ones are gone with i. */
        private int upToOfDoor(int i) {
            int set = 0;
            for (int j = 0; j <= i; j++) {
                set |= doors[j] == doors[i] ? 1 << j : 0;
            }
            return set;
        }

        /** No plan brings more from this knock on: the dearest pages, as many as each door and the night have room. */
        private int mostFrom(int knock, int gone) {
            for (int door = 0; door < DOORS; door++) {
                int from = Math.max(knock, freeFrom[door]);
                room[door] = from >= night || lets[door] < 1 ? 0 : (night - 1 - from) / lets[door] + 1;
            }
            int knocks = night - knock;
            int sum = 0;
            for (int k = 0; k < size && knocks > 0; k++) {
                int i = byWorth[k];
                if ((gone >> i & 1) == 0 && room[doors[i]] > 0) {
                    room[doors[i]]--;
                    knocks--;
                    sum += worths[i];
                }
            }
            return sum;
        }
    }

    /** Three houses that keep the pieces of all looks, each until it loses one. */
    private static final class Houses {
        private final long[] kept = new long[HOUSES];

        void bring(long set) {
            for (int h = 0; h < HOUSES; h++) {
                kept[h] |= set;
            }
        }

        long keptIn(int house) {
            return house < 0 || house >= HOUSES ? 0 : kept[house];
        }

        long keptInAny() {
            return kept[0] | kept[1] | kept[2];
        }

        boolean drop(int house, int piece) {
            if ((keptIn(house) >> piece & 1) == 0) {
                return false;
            }
            kept[house] &= ~(1L << piece);
            return true;
        }

        /** One word for the row, and two more for each part of more than one place that differs. */
        int sentBetween(int a, int b) {
            long differing = keptIn(a) ^ keptIn(b);
            int sent = 1;
            for (int size = ROW_PLACES; size > 1; size /= 2) {
                long places = -1L >>> ROW_PLACES - size;
                for (int from = 0; from < ROW_PLACES; from += size) {
                    sent += (differing >>> from & places) != 0 ? 2 : 0;
                }
            }
            return sent;
        }

        int level() {
            long all = keptInAny();
            int came = 0;
            for (int h = 0; h < HOUSES; h++) {
                came += Long.bitCount(all & ~kept[h]);
                kept[h] = all;
            }
            return came;
        }
    }
}
