import java.util.Arrays;

/** Notes of one keyboard parted into voices, as ../shared/DOC.md promises. */
public final class PartedVoices {
    public static final int NONE = -1, UNKNOWN = -1000000001, OUTSIDE = -1000000002, NOT = -1000000003, FULL = -1000000004;

    private static final int MOST_NOTES = 10;
    private static final int MOST_DRAWN = 10;

    private final Score score;
    private final Lines lines;
    private final Partings partings;
    private final History history;
    private final Images images;
    private final Book book;
    private final Draws draws;

    public PartedVoices() {
        score = new Score();
        lines = new Lines(score);
        partings = new Partings(score);
        history = new History();
        images = new Images();
        book = new Book();
        draws = new Draws();
    }

    // ---- what is so

    public int told(int what) {
        switch (what) {
            case 0: return score.count();
            case 1: return standing().countVoices();
            case 2: return standing().costOfAll();
            case 3: return weighed().fewest();
            case 4: return weighed().cheapest();
            case 5: return weighed().cheapestCost();
            case 6: return lines.crossings();
            case 7:
            case 8:
            case 9:
            case 10:
            case 11: return score.valueOf(what - 7);
            case 12: return book.size();
            case 13: return book.wrong(weighed());
            case 14: return history.held();
            case 15: return draws.state();
            default: return OUTSIDE;
        }
    }

    public int at(int i, int what) {
        if (!score.has(i)) return UNKNOWN;
        switch (what) {
            case 0: return score.on(i);
            case 1: return score.off(i);
            case 2: return score.pitch(i);
            case 3: return score.next(i);
            case 4: return standing().ahead(i);
            case 5: return standing().voiceWith(i);
            case 6: return partings.price(i);
            case 7: return score.countFollowers(i);
            default: return OUTSIDE;
        }
    }

    public int cost(int a, int b) {
        if (!score.has(a) || !score.has(b)) return UNKNOWN;
        return score.costToFollow(a, b);
    }

    public int least(int k) {
        if (!isVoiceCount(k)) return OUTSIDE;
        return weighed().leastCost(k);
    }

    public int first(int k, int i) {
        if (!score.has(i)) return UNKNOWN;
        if (!isVoiceCount(k)) return OUTSIDE;
        Partings all = weighed();
        return all.choose(k) ? all.chosen(i) : NOT;
    }

    public int voice(int v, int what) {
        Lines now = standing();
        if (!now.hasVoice(v)) return UNKNOWN;
        switch (what) {
            case 0: return now.size(v);
            case 1: return now.noteOf(v, 0);
            case 2: return now.noteOf(v, now.size(v) - 1);
            case 3: return now.lowest(v);
            case 4: return now.highest(v);
            case 5: return now.rests(v);
            case 6: return now.costOf(v);
            default: return OUTSIDE;
        }
    }

    public int member(int v, int i) {
        Lines now = standing();
        if (!now.hasVoice(v)) return UNKNOWN;
        if (i < 0) return OUTSIDE;
        return now.noteOf(v, i);
    }

    // ---- deeds

    public int note(int on, int length, int pitch) {
        if (!Score.canBe(on, length, pitch)) return OUTSIDE;
        if (score.isFull()) return FULL;
        history.record(score);
        return score.bring(on, length, pitch);
    }

    public int take(int i) {
        if (!score.has(i)) return UNKNOWN;
        history.record(score);
        score.drop(i);
        return score.count();
    }

    public int move(int i, int on, int length, int pitch) {
        if (!score.has(i)) return UNKNOWN;
        if (!Score.canBe(on, length, pitch)) return OUTSIDE;
        history.record(score);
        score.drop(i);
        return score.bring(on, length, pitch);
    }

    public int share(int i) {
        if (!score.has(i)) return UNKNOWN;
        if (score.isFull()) return FULL;
        history.record(score);
        return score.bring(score.on(i), score.length(i), score.pitch(i));
    }

    public int term(int which, int v) {
        if (!Score.canBeTerm(which, v)) return OUTSIDE;
        history.record(score);
        return score.changeTerm(which, v);
    }

    public int follow(int a, int b) {
        if (!score.has(a) || !score.has(b)) return UNKNOWN;
        if (!score.mayFollow(a, b)) return NOT;
        history.record(score);
        score.link(standing().ahead(b), NONE);
        score.link(a, b);
        return score.costToFollow(a, b);
    }

    public int cut(int a) {
        if (!score.has(a)) return UNKNOWN;
        history.record(score);
        int was = score.next(a);
        score.link(a, NONE);
        return was;
    }

    public int part(int k) {
        if (k != NONE && !isVoiceCount(k)) return OUTSIDE;
        Partings all = weighed();
        int voices = k == NONE ? all.cheapest() : k;
        if (!all.choose(voices)) return NOT;
        history.record(score);
        for (int i = 0; i < score.count(); i++) {
            score.link(i, all.chosen(i));
        }
        return standing().costOfAll();
    }

    public int mend() {
        history.record(score);
        return lines.mendCrossings();
    }

    public int clear() {
        history.record(score);
        int were = score.count();
        score.dropAll();
        return were;
    }

    public int drift(int n) {
        if (n < 1 || n > MOST_DRAWN) return OUTSIDE;
        for (int time = 0; time < n && !score.isFull(); time++) {
            history.record(score);
            bringDrawn();
        }
        return score.count();
    }

    public int undo(int n) {
        if (n < 1 || n > History.MOST) return OUTSIDE;
        if (n > history.held()) return NOT;
        history.giveBack(n, score);
        return score.count();
    }

    // ---- the book

    public int write(int k, int v) {
        if (!isVoiceCount(k)) return OUTSIDE;
        if (book.isFull()) return FULL;
        book.add(k, v);
        return book.size();
    }

    public int tear() {
        int had = book.size();
        book.empty();
        return had;
    }

    // ---- images

    public int seed(int v) {
        if (v < 0) return OUTSIDE;
        int was = draws.state();
        draws.become(v);
        return was;
    }

    public int keep(int i) {
        if (!Images.isImage(i)) return UNKNOWN;
        images.store(i, score, draws);
        history.forget();
        return 1;
    }

    public int goBack(int i) {
        if (!Images.isImage(i)) return UNKNOWN;
        if (!images.isKept(i)) return NOT;
        images.restore(i, score, draws);
        history.forget();
        return 1;
    }

    // ---- helpers of the face

    private static boolean isVoiceCount(int k) {
        return k >= 0 && k <= MOST_NOTES;
    }

    private Lines standing() {
        lines.read();
        return lines;
    }

    private Partings weighed() {
        partings.weigh(NONE);
        return partings;
    }

    private void bringDrawn() {
        int on = draws.draw(24);
        int length = draws.draw(6) + 1;
        int pitch = draws.draw(25) + 48;
        score.bring(on, length, pitch);
    }

    /** Notes in their order, terms, and who follows whom: all that deeds change and undoing gives back. */
    private static final class Score {
        static final int STEP = 0, GAP = 1, LEAP = 2, ENTRY = 3, LONGEST = 4;

        private static final int TERMS = 5;
        private static final int[] FIRST_TERMS = {1, 1, 10, 20, 16};
        private static final int[] GREATEST_TERMS = {9, 9, 99, 999, 99};

        private static final int COUNT = 0, TERMS_FROM = 1, NOTES_FROM = TERMS_FROM + TERMS;
        private static final int ON = 0, LENGTH = 1, PITCH = 2, NEXT = 3, NOTE_CELLS = 4;
        static final int CELLS = NOTES_FROM + MOST_NOTES * NOTE_CELLS;

        /** One row for all of it, so that history and images copy it in one go. */
        private final int[] cells = new int[CELLS];
        /** Another one whenever notes or terms change, so that partings need not be weighed again without need. */
        private int edition;

        Score() {
            System.arraycopy(FIRST_TERMS, 0, cells, TERMS_FROM, TERMS);
        }

        static boolean canBe(int on, int length, int pitch) {
            return on >= 0 && on <= 99 && length >= 1 && length <= 32 && pitch >= 0 && pitch <= 127;
        }

        static boolean canBeTerm(int which, int v) {
            return which >= 0 && which < TERMS && v >= 0 && v <= GREATEST_TERMS[which];
        }

        int count() {
            return cells[COUNT];
        }

        int edition() {
            return edition;
        }

        boolean isFull() {
            return cells[COUNT] >= MOST_NOTES;
        }

        boolean has(int i) {
            return i >= 0 && i < MOST_NOTES && i < cells[COUNT];
        }

        int on(int i) {
            return cell(i, ON);
        }

        int length(int i) {
            return cell(i, LENGTH);
        }

        int off(int i) {
            return cell(i, ON) + cell(i, LENGTH);
        }

        int pitch(int i) {
            return cell(i, PITCH);
        }

        int next(int i) {
            return cell(i, NEXT);
        }

        private int cell(int i, int what) {
            return i >= 0 && i < MOST_NOTES ? cells[NOTES_FROM + i * NOTE_CELLS + what] : NONE;
        }

        int valueOf(int which) {
            return which >= 0 && which < TERMS ? cells[TERMS_FROM + which] : NONE;
        }

        /** What it was. */
        int changeTerm(int which, int v) {
            int was = valueOf(which);
            if (which >= 0 && which < TERMS) {
                cells[TERMS_FROM + which] = v;
                changed();
            }
            return was;
        }

        boolean mayFollow(int a, int b) {
            if (!has(a) || !has(b)) return false;
            int rest = on(b) - off(a);
            return rest >= 0 && rest <= valueOf(LONGEST);
        }

        /** NONE: b may not follow a. */
        int costToFollow(int a, int b) {
            if (!mayFollow(a, b)) return NONE;
            int apart = Math.abs(pitch(b) - pitch(a));
            int rest = on(b) - off(a);
            int leap = apart > 12 ? valueOf(LEAP) : 0;
            return apart * valueOf(STEP) + rest * valueOf(GAP) + leap;
        }

        int countFollowers(int a) {
            int found = 0;
            for (int b = 0; b < count(); b++) {
                if (mayFollow(a, b)) found++;
            }
            return found;
        }

        /** The number of the note that comes. */
        int bring(int on, int length, int pitch) {
            int count = count();
            if (count < 0 || count >= MOST_NOTES) return FULL;
            int i = placeFor(on, length, pitch);
            int from = NOTES_FROM + i * NOTE_CELLS;
            System.arraycopy(cells, from, cells, from + NOTE_CELLS, (count - i) * NOTE_CELLS);
            cells[from + ON] = on;
            cells[from + LENGTH] = length;
            cells[from + PITCH] = pitch;
            cells[COUNT] = count + 1;
            changed();
            return i;
        }

        /** Behind all that are like it, for they came earlier. */
        private int placeFor(int on, int length, int pitch) {
            int key = orderKey(on, length, pitch);
            int i = 0;
            while (i < count() && orderKey(on(i), length(i), pitch(i)) <= key) i++;
            return i;
        }

        /** Rises as notes are ordered: lengths are below 64, pitches below 128. */
        private static int orderKey(int on, int length, int pitch) {
            return (on * 128 + pitch) * 64 + length;
        }

        void drop(int i) {
            if (!has(i)) return;
            int from = NOTES_FROM + i * NOTE_CELLS;
            int behind = count() - 1 - i;
            System.arraycopy(cells, from + NOTE_CELLS, cells, from, behind * NOTE_CELLS);
            cells[COUNT] = count() - 1;
            changed();
        }

        void dropAll() {
            cells[COUNT] = 0;
            changed();
        }

        /** Notes or terms are others now: none has a next any more. */
        private void changed() {
            edition++;
            for (int i = 0; i < count(); i++) {
                link(i, NONE);
            }
        }

        void link(int a, int b) {
            if (has(a)) cells[NOTES_FROM + a * NOTE_CELLS + NEXT] = b;
        }

        /** Shelves are rows of whole scores, one behind the other. */
        void copyTo(int[] shelf, int place) {
            if (fitsOn(shelf, place)) System.arraycopy(cells, 0, shelf, place * CELLS, CELLS);
        }

        void copyFrom(int[] shelf, int place) {
            if (!fitsOn(shelf, place)) return;
            System.arraycopy(shelf, place * CELLS, cells, 0, CELLS);
            edition++;
        }

        private static boolean fitsOn(int[] shelf, int place) {
            return shelf != null && place >= 0 && place < shelf.length / CELLS;
        }
    }

    /** Voices and lines as they stand. A next note always has the greater number, for it begins later. */
    private static final class Lines {
        private static final int MOST_MENDINGS = 50;

        private final Score score;
        private final int[] aheadOf = new int[MOST_NOTES];
        private final int[] voiceOf = new int[MOST_NOTES];
        private int voices;

        Lines(Score score) {
            this.score = score;
        }

        /** What is asked of voices holds for the score as it was read last. */
        void read() {
            Arrays.fill(aheadOf, NONE);
            for (int i = 0; i < score.count(); i++) {
                int next = score.next(i);
                if (score.has(next)) aheadOf[next] = i;
            }
            voices = 0;
            for (int i = 0; i < score.count() && i < MOST_NOTES; i++) {
                int ahead = aheadOf[i];
                if (ahead >= 0 && ahead < i) {
                    voiceOf[i] = voiceOf[ahead];
                } else {
                    voiceOf[i] = voices;
                    voices++;
                }
            }
        }

        int ahead(int i) {
            return score.has(i) ? aheadOf[i] : NONE;
        }

        int voiceWith(int i) {
            return score.has(i) ? voiceOf[i] : NONE;
        }

        int countVoices() {
            return voices;
        }

        boolean hasVoice(int v) {
            return v >= 0 && v < voices;
        }

        private boolean isIn(int v, int i) {
            return score.has(i) && voiceOf[i] == v;
        }

        int size(int v) {
            int found = 0;
            for (int n = 0; n < score.count(); n++) {
                if (isIn(v, n)) found++;
            }
            return found;
        }

        /** The i-th note of a voice; NONE: it has not so many. */
        int noteOf(int v, int i) {
            int seen = 0;
            for (int n = 0; n < score.count(); n++) {
                if (isIn(v, n)) {
                    if (seen == i) return n;
                    seen++;
                }
            }
            return NONE;
        }

        int lowest(int v) {
            int lowest = score.pitch(noteOf(v, 0));
            for (int n = 0; n < score.count(); n++) {
                if (isIn(v, n)) lowest = Math.min(lowest, score.pitch(n));
            }
            return lowest;
        }

        int highest(int v) {
            int highest = score.pitch(noteOf(v, 0));
            for (int n = 0; n < score.count(); n++) {
                if (isIn(v, n)) highest = Math.max(highest, score.pitch(n));
            }
            return highest;
        }

        int rests(int v) {
            int rests = 0;
            for (int n = 0; n < score.count(); n++) {
                int next = score.next(n);
                if (isIn(v, n) && next != NONE) rests += score.on(next) - score.off(n);
            }
            return rests;
        }

        int costOf(int v) {
            int cost = score.valueOf(Score.ENTRY);
            for (int n = 0; n < score.count(); n++) {
                if (isIn(v, n)) cost += costBehind(n);
            }
            return cost;
        }

        int costOfAll() {
            int cost = countVoices() * score.valueOf(Score.ENTRY);
            for (int n = 0; n < score.count(); n++) {
                cost += costBehind(n);
            }
            return cost;
        }

        private int costBehind(int n) {
            int next = score.next(n);
            return next == NONE ? 0 : score.costToFollow(n, next);
        }

        int crossings() {
            int found = 0;
            for (int a = 0; a < score.count(); a++) {
                for (int c = a + 1; c < score.count(); c++) {
                    if (cross(a, c)) found++;
                }
            }
            return found;
        }

        private boolean cross(int a, int c) {
            int b = score.next(a);
            int d = score.next(c);
            if (b == NONE || d == NONE) return false;
            if (score.on(a) >= score.on(d) || score.on(c) >= score.on(b)) return false;
            int apart = score.pitch(a) - score.pitch(c);
            int apartThen = score.pitch(b) - score.pitch(d);
            return apart < 0 && apartThen > 0 || apart > 0 && apartThen < 0;
        }

        /** How often two notes changed their next. */
        int mendCrossings() {
            int times = 0;
            while (times < MOST_MENDINGS && mendFirst()) times++;
            return times;
        }

        private boolean mendFirst() {
            for (int a = 0; a < score.count(); a++) {
                for (int c = a + 1; c < score.count(); c++) {
                    if (canMend(a, c)) {
                        int next = score.next(a);
                        score.link(a, score.next(c));
                        score.link(c, next);
                        return true;
                    }
                }
            }
            return false;
        }

        private boolean canMend(int a, int c) {
            return cross(a, c) && score.mayFollow(a, score.next(c)) && score.mayFollow(c, score.next(a));
        }
    }

    /** All partings that the notes can have, weighed at once by which notes are led to. */
    private static final class Partings {
        /** Above what all lines of any parting cost together. */
        private static final int BARRED = 1000000;

        private final Score score;
        private final int[] lineCosts = new int[MOST_NOTES * MOST_NOTES];
        /**
         * The least cost of lines from note i and those behind it to just the notes of a set,
         * at bit(i) + set; sets hold notes behind i alone, so they are below bit(i).
         */
        private final int[] leastTo = new int[1 << MOST_NOTES];
        private final int[] leastOf = new int[MOST_NOTES + 1];
        private final int[] chosen = new int[MOST_NOTES];
        private int count;
        private int entry;
        private int weighedEdition = NONE;
        private int weighedAlone = NONE;

        Partings(Score score) {
            this.score = score;
        }

        /** With one note alone in its voice, whatever may follow; NONE: with none such. */
        void weigh(int alone) {
            if (weighedEdition == score.edition() && weighedAlone == alone) return;
            weighedEdition = score.edition();
            weighedAlone = alone;
            count = Math.min(score.count(), MOST_NOTES);
            entry = score.valueOf(Score.ENTRY);
            for (int a = 0; a < count; a++) {
                for (int b = 0; b < count; b++) {
                    lineCosts[a * MOST_NOTES + b] = a == alone || b == alone ? BARRED : barredOr(score.costToFollow(a, b));
                }
            }
            if (count > 0) leastTo[bit(count - 1)] = 0;
            for (int i = count - 2; i >= 0; i--) {
                weighFrom(i);
            }
            findLeast();
        }

        private static int barredOr(int cost) {
            return cost == NONE ? BARRED : cost;
        }

        /** Of the last note 1, of each ahead of it twice as much. */
        private int bit(int i) {
            return 1 << (count - 1 - i);
        }

        private int lineCost(int a, int b) {
            return a >= 0 && a < MOST_NOTES && b >= 0 && b < MOST_NOTES ? lineCosts[a * MOST_NOTES + b] : BARRED;
        }

        private void weighFrom(int i) {
            int behind = bit(i + 1);
            for (int set = 0; set < behind; set++) {
                leastTo[2 * behind + set] = leastTo[behind + set];
                leastTo[3 * behind + set] = BARRED;
            }
            for (int b = i + 1; b < count; b++) {
                if (lineCost(i, b) < BARRED) weighLine(behind, bit(b), lineCost(i, b));
            }
        }

        /** A line to the note of this bit, with all that the notes behind, whose row begins there, can lead to else. */
        private void weighLine(int behind, int bit, int cost) {
            for (int set = 0; set < behind; set++) {
                if ((set & bit) == 0) {
                    int to = 2 * behind + set + bit;
                    leastTo[to] = Math.min(leastTo[to], cost + leastTo[behind + set]);
                }
            }
        }

        private void findLeast() {
            Arrays.fill(leastOf, NONE);
            if (count == 0) {
                leastOf[0] = 0;
                return;
            }
            int row = bit(0);
            for (int set = 0; set < row; set++) {
                int cost = leastTo[row + set];
                if (cost < BARRED) offer(count - Integer.bitCount(set), cost);
            }
        }

        private void offer(int k, int cost) {
            int whole = cost + k * entry;
            if (isVoiceCount(k) && (leastOf[k] == NONE || whole < leastOf[k])) leastOf[k] = whole;
        }

        int leastCost(int k) {
            return isVoiceCount(k) ? leastOf[k] : NONE;
        }

        int fewest() {
            for (int k = 0; k <= MOST_NOTES; k++) {
                if (leastOf[k] != NONE) return k;
            }
            return 0;
        }

        int cheapest() {
            int cheapest = fewest();
            for (int k = cheapest + 1; k <= MOST_NOTES; k++) {
                if (leastOf[k] != NONE && leastOf[k] < leastCost(cheapest)) cheapest = k;
            }
            return cheapest;
        }

        int cheapestCost() {
            return leastCost(cheapest());
        }

        /** A note that is alone in its voice adds an entry and nothing else to what would be without it. */
        int price(int i) {
            weigh(NONE);
            int with = cheapestCost();
            weigh(i);
            return with - (cheapestCost() - entry);
        }

        int chosen(int i) {
            return i >= 0 && i < MOST_NOTES ? chosen[i] : NONE;
        }

        /** The first of the cheapest partings with k voices; false: there is none. */
        boolean choose(int k) {
            if (leastCost(k) == NONE) return false;
            int goal = leastCost(k) - k * entry;
            int lines = count - k;
            int led = 0;
            for (int i = 0; i < count; i++) {
                int next = firstNext(i, goal, lines, led);
                chosen[i] = next;
                if (next != NONE) {
                    goal -= lineCost(i, next);
                    lines--;
                    led |= bit(next);
                }
            }
            return true;
        }

        /** The least next of note i with which so many lines from it on still cost just the goal. */
        private int firstNext(int i, int goal, int lines, int led) {
            if (leastBehind(i, lines, led) == goal) return NONE;
            for (int b = i + 1; b < count; b++) {
                int bit = bit(b);
                if ((led & bit) == 0 && lineCost(i, b) + leastBehind(i, lines - 1, led | bit) == goal) return b;
            }
            return NONE;
        }

        /** The least cost of just so many lines from the notes behind i to notes not led to yet. */
        private int leastBehind(int i, int lines, int led) {
            if (i + 1 >= count) return lines == 0 ? 0 : BARRED;
            int row = bit(i + 1);
            int least = BARRED;
            for (int set = 0; set < row; set++) {
                if ((set & led) == 0 && Integer.bitCount(set) == lines) least = Math.min(least, leastTo[row + set]);
            }
            return least;
        }
    }

    /** Scores as they were ahead of the latest deeds. */
    private static final class History {
        static final int MOST = 16;

        private final int[] shelf = new int[MOST * Score.CELLS];
        private int place;
        private int held;

        int held() {
            return held;
        }

        void record(Score score) {
            score.copyTo(shelf, place);
            place = (place + 1) % MOST;
            held = Math.min(held + 1, MOST);
        }

        void giveBack(int deeds, Score score) {
            if (deeds < 1 || deeds > held) return;
            place = (place + MOST - deeds) % MOST;
            held -= deeds;
            score.copyFrom(shelf, place);
        }

        void forget() {
            held = 0;
        }
    }

    /** What was kept to go back to. */
    private static final class Images {
        private static final int MOST = 2;

        private final int[] shelf = new int[MOST * Score.CELLS];
        private final int[] seeds = new int[MOST];
        private final boolean[] kept = new boolean[MOST];

        static boolean isImage(int i) {
            return i >= 0 && i < MOST;
        }

        boolean isKept(int i) {
            return isImage(i) && kept[i];
        }

        void store(int i, Score score, Draws draws) {
            if (!isImage(i)) return;
            score.copyTo(shelf, i);
            seeds[i] = draws.state();
            kept[i] = true;
        }

        void restore(int i, Score score, Draws draws) {
            if (!isKept(i)) return;
            score.copyFrom(shelf, i);
            draws.become(seeds[i]);
        }
    }

    /** What somebody holds the least costs to be. */
    private static final class Book {
        private static final int MOST = 20;

        private final int[] voices = new int[MOST];
        private final int[] costs = new int[MOST];
        private int size;

        int size() {
            return size;
        }

        boolean isFull() {
            return size >= MOST;
        }

        void add(int k, int v) {
            if (isFull()) return;
            voices[size] = k;
            costs[size] = v;
            size++;
        }

        void empty() {
            size = 0;
        }

        /** The first entry that is otherwise; NONE: there is none. */
        int wrong(Partings partings) {
            for (int i = 0; i < size && i < MOST; i++) {
                if (partings.leastCost(voices[i]) != costs[i]) return i;
            }
            return NONE;
        }
    }

    /** The seed and what is drawn from it. */
    private static final class Draws {
        private int seed;

        int state() {
            return seed;
        }

        void become(int v) {
            seed = v;
        }

        int draw(int n) {
            // An int wraps at 2 to the 32; that leaves the lower 31 bits as they are.
            seed = (seed * 1103515245 + 12345) & 0x7fffffff;
            return n < 1 ? 0 : seed / 65536 % n;
        }
    }
}
