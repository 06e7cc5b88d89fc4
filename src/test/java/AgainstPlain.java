import java.util.ArrayList;
import java.util.Arrays;
import java.util.List;
import java.util.Random;

/** Random runs of calls, each answer against a plain second model that tries every parting. */
public final class AgainstPlain {
  private static final int RUNS = 400;
  /** What later calls answer is free. */
  private static final int MOST_CALLS = 512;
  private static final int NONE = -1, UNKNOWN = -1000000001, OUTSIDE = -1000000002, NOT = -1000000003, FULL = -1000000004;

  private static final class Note {
    final int on, length, pitch, came;

    Note(int on, int length, int pitch, int came) {
      this.on = on;
      this.length = length;
      this.pitch = pitch;
      this.came = came;
    }

    int off() { return on + length; }
  }

  /** A copy is made ahead of every deed; nothing is shared that changes. */
  private static final class State {
    List<Note> notes = new ArrayList<>();
    int[] terms = {1, 1, 10, 20, 16};
    int[] next = new int[0];

    State copy() {
      State s = new State();
      s.notes = new ArrayList<>(notes);
      s.terms = terms.clone();
      s.next = next.clone();
      return s;
    }
  }

  private static final class Plain {
    State now = new State();
    final List<State> past = new ArrayList<>();
    final State[] images = new State[2];
    final long[] imageSeeds = new long[2];
    final List<int[]> book = new ArrayList<>();
    long seed = 0;
    int comings = 0;

    int size() { return now.notes.size(); }

    boolean has(int i) { return i >= 0 && i < size(); }

    static boolean in(int v, int low, int high) { return v >= low && v <= high; }

    static int cost(State s, Note a, Note b) {
      int rest = b.on - a.off();
      if (rest < 0 || rest > s.terms[4]) return NONE;
      int apart = Math.abs(a.pitch - b.pitch);
      return apart * s.terms[0] + rest * s.terms[1] + (apart > 12 ? s.terms[2] : 0);
    }

    int cost(int a, int b) { return cost(now, now.notes.get(a), now.notes.get(b)); }

    /** Tries every parting, the first ahead; best[k] is the first of the cheapest. */
    static final class Search {
      final State s;
      final int n;
      final int[] least = new int[11];
      final int[][] best = new int[11][];
      final int[] trial;
      final boolean[] led;

      Search(State s) {
        this.s = s;
        n = s.notes.size();
        trial = new int[n];
        led = new boolean[n];
        Arrays.fill(least, NONE);
        go(0, 0, n);
      }

      void go(int i, int sum, int voices) {
        if (i == n) {
          int total = sum + voices * s.terms[3];
          if (least[voices] == NONE || total < least[voices]) {
            least[voices] = total;
            best[voices] = trial.clone();
          }
          return;
        }
        trial[i] = NONE;
        go(i + 1, sum, voices);
        for (int b = 0; b < n; b++) {
          int c = cost(s, s.notes.get(i), s.notes.get(b));
          if (led[b] || c == NONE) continue;
          led[b] = true;
          trial[i] = b;
          go(i + 1, sum + c, voices - 1);
          led[b] = false;
        }
      }

      int fewest() {
        for (int k = 0; k <= 10; k++) if (least[k] != NONE) return k;
        throw new IllegalStateException();
      }

      int cheapest() {
        int best = fewest();
        for (int k = 0; k <= 10; k++) if (least[k] != NONE && least[k] < least[best]) best = k;
        return best;
      }
    }

    int before(int i) {
      for (int a = 0; a < size(); a++) if (now.next[a] == i) return a;
      return NONE;
    }

    List<List<Integer>> voices() {
      List<List<Integer>> voices = new ArrayList<>();
      for (int i = 0; i < size(); i++) {
        if (before(i) != NONE) continue;
        List<Integer> voice = new ArrayList<>();
        for (int n = i; n != NONE; n = now.next[n]) voice.add(n);
        voices.add(voice);
      }
      return voices;
    }

    int costOf(List<Integer> voice) {
      int cost = now.terms[3];
      for (int i = 1; i < voice.size(); i++) cost += cost(voice.get(i - 1), voice.get(i));
      return cost;
    }

    int costOfAll() {
      int cost = 0;
      for (List<Integer> voice : voices()) cost += costOf(voice);
      return cost;
    }

    boolean cross(int a, int c) {
      if (now.next[a] == NONE || now.next[c] == NONE) return false;
      Note na = now.notes.get(a), nb = now.notes.get(now.next[a]), nc = now.notes.get(c), nd = now.notes.get(now.next[c]);
      boolean atOnce = na.on < nd.on && nc.on < nb.on;
      boolean up = na.pitch < nc.pitch && nb.pitch > nd.pitch;
      boolean down = na.pitch > nc.pitch && nb.pitch < nd.pitch;
      return atOnce && (up || down);
    }

    int crossings() {
      int found = 0;
      for (int a = 0; a < size(); a++) for (int c = 0; c < a; c++) if (cross(a, c)) found++;
      return found;
    }

    int told(int what) {
      switch (what) {
        case 0: return size();
        case 1: return voices().size();
        case 2: return costOfAll();
        case 3: return new Search(now).fewest();
        case 4: return new Search(now).cheapest();
        case 5: { Search s = new Search(now); return s.least[s.cheapest()]; }
        case 6: return crossings();
        case 7: case 8: case 9: case 10: case 11: return now.terms[what - 7];
        case 12: return book.size();
        case 13: {
          Search s = new Search(now);
          for (int i = 0; i < book.size(); i++) if (s.least[book.get(i)[0]] != book.get(i)[1]) return i;
          return NONE;
        }
        case 14: return past.size();
        case 15: return (int) seed;
        default: return OUTSIDE;
      }
    }

    int at(int i, int what) {
      if (!has(i)) return UNKNOWN;
      switch (what) {
        case 0: return now.notes.get(i).on;
        case 1: return now.notes.get(i).off();
        case 2: return now.notes.get(i).pitch;
        case 3: return now.next[i];
        case 4: return before(i);
        case 5: {
          List<List<Integer>> voices = voices();
          for (int v = 0; v < voices.size(); v++) if (voices.get(v).contains(i)) return v;
          throw new IllegalStateException();
        }
        case 6: {
          State without = now.copy();
          without.notes.remove(i);
          Search a = new Search(now), b = new Search(without);
          return a.least[a.cheapest()] - b.least[b.cheapest()];
        }
        case 7: {
          int found = 0;
          for (int b = 0; b < size(); b++) if (cost(i, b) != NONE) found++;
          return found;
        }
        default: return OUTSIDE;
      }
    }

    int first(int k, int i) {
      if (!has(i)) return UNKNOWN;
      if (!in(k, 0, 10)) return OUTSIDE;
      int[] best = new Search(now).best[k];
      return best == null ? NOT : best[i];
    }

    int voice(int v, int what) {
      List<List<Integer>> voices = voices();
      if (!in(v, 0, voices.size() - 1)) return UNKNOWN;
      List<Integer> voice = voices.get(v);
      int low = 999, high = -999, rests = 0;
      for (int i = 0; i < voice.size(); i++) {
        Note n = now.notes.get(voice.get(i));
        low = Math.min(low, n.pitch);
        high = Math.max(high, n.pitch);
        if (i > 0) rests += n.on - now.notes.get(voice.get(i - 1)).off();
      }
      switch (what) {
        case 0: return voice.size();
        case 1: return voice.get(0);
        case 2: return voice.get(voice.size() - 1);
        case 3: return low;
        case 4: return high;
        case 5: return rests;
        case 6: return costOf(voice);
        default: return OUTSIDE;
      }
    }

    int member(int v, int i) {
      List<List<Integer>> voices = voices();
      if (!in(v, 0, voices.size() - 1)) return UNKNOWN;
      if (i < 0) return OUTSIDE;
      return i < voices.get(v).size() ? voices.get(v).get(i) : NONE;
    }

    void deed() {
      past.add(now.copy());
      if (past.size() > 16) past.remove(0);
    }

    void loosen() {
      now.next = new int[size()];
      Arrays.fill(now.next, NONE);
    }

    int come(int on, int length, int pitch) {
      Note note = new Note(on, length, pitch, comings++);
      now.notes.add(note);
      now.notes.sort((a, b) -> a.on != b.on ? a.on - b.on : a.pitch != b.pitch ? a.pitch - b.pitch
          : a.length != b.length ? a.length - b.length : a.came - b.came);
      loosen();
      return now.notes.indexOf(note);
    }

    static boolean fits(int on, int length, int pitch) {
      return in(on, 0, 99) && in(length, 1, 32) && in(pitch, 0, 127);
    }

    int note(int on, int length, int pitch) {
      if (!fits(on, length, pitch)) return OUTSIDE;
      if (size() == 10) return FULL;
      deed();
      return come(on, length, pitch);
    }

    int take(int i) {
      if (!has(i)) return UNKNOWN;
      deed();
      now.notes.remove(i);
      loosen();
      return size();
    }

    int move(int i, int on, int length, int pitch) {
      if (!has(i)) return UNKNOWN;
      if (!fits(on, length, pitch)) return OUTSIDE;
      deed();
      now.notes.remove(i);
      return come(on, length, pitch);
    }

    int share(int i) {
      if (!has(i)) return UNKNOWN;
      if (size() == 10) return FULL;
      deed();
      Note n = now.notes.get(i);
      return come(n.on, n.length, n.pitch);
    }

    int term(int which, int v) {
      int[] most = {9, 9, 99, 999, 99};
      if (!in(which, 0, 4) || !in(v, 0, most[which])) return OUTSIDE;
      deed();
      int was = now.terms[which];
      now.terms[which] = v;
      loosen();
      return was;
    }

    int follow(int a, int b) {
      if (!has(a) || !has(b)) return UNKNOWN;
      if (cost(a, b) == NONE) return NOT;
      deed();
      if (before(b) != NONE) now.next[before(b)] = NONE;
      now.next[a] = b;
      return cost(a, b);
    }

    int cut(int a) {
      if (!has(a)) return UNKNOWN;
      deed();
      int was = now.next[a];
      now.next[a] = NONE;
      return was;
    }

    int part(int k) {
      if (!in(k, -1, 10)) return OUTSIDE;
      Search s = new Search(now);
      int voices = k == NONE ? s.cheapest() : k;
      if (s.best[voices] == null) return NOT;
      deed();
      now.next = s.best[voices].clone();
      return costOfAll();
    }

    boolean mendOne() {
      for (int a = 0; a < size(); a++) {
        for (int c = a + 1; c < size(); c++) {
          if (!cross(a, c) || cost(a, now.next[c]) == NONE || cost(c, now.next[a]) == NONE) continue;
          int b = now.next[a];
          now.next[a] = now.next[c];
          now.next[c] = b;
          return true;
        }
      }
      return false;
    }

    int mend() {
      deed();
      for (int times = 0; times < 50; times++) if (!mendOne()) return times;
      return 50;
    }

    int clear() {
      deed();
      int were = size();
      now.notes.clear();
      loosen();
      return were;
    }

    int draw(int n) {
      seed = (seed * 1103515245L + 12345L) % (1L << 31);
      return (int) (seed / 65536 % n);
    }

    int drift(int n) {
      if (!in(n, 1, 10)) return OUTSIDE;
      for (int i = 0; i < n && size() < 10; i++) {
        deed();
        int on = draw(24), length = draw(6) + 1, pitch = draw(25) + 48;
        come(on, length, pitch);
      }
      return size();
    }

    int undo(int n) {
      if (!in(n, 1, 16)) return OUTSIDE;
      if (n > past.size()) return NOT;
      for (int i = 0; i < n; i++) now = past.remove(past.size() - 1);
      return size();
    }

    int write(int k, int v) {
      if (!in(k, 0, 10)) return OUTSIDE;
      if (book.size() == 20) return FULL;
      book.add(new int[] {k, v});
      return book.size();
    }

    int tear() {
      int had = book.size();
      book.clear();
      return had;
    }

    int seed(int v) {
      if (v < 0) return OUTSIDE;
      int was = (int) seed;
      seed = v;
      return was;
    }

    int keep(int i) {
      if (!in(i, 0, 1)) return UNKNOWN;
      images[i] = now.copy();
      imageSeeds[i] = seed;
      past.clear();
      return 1;
    }

    int goBack(int i) {
      if (!in(i, 0, 1)) return UNKNOWN;
      if (images[i] == null) return NOT;
      now = images[i].copy();
      seed = imageSeeds[i];
      past.clear();
      return 1;
    }
  }

  private static final class Run {
    final Random random;
    final int number;
    /** Small: notes stand close together, and few follow; large: long chains of them. */
    final int span;
    final PartedVoices x = new PartedVoices();
    final Plain plain = new Plain();
    String call = "";
    int got;
    int want;

    Run(int number) {
      this.number = number;
      random = new Random(number);
      span = new int[] {4, 10, 20, 40, 100}[number % 5];
    }

    int odd() {
      int[] odd = {Integer.MIN_VALUE, Integer.MAX_VALUE, -2, -1, 10, 11, 12, 100, 1000, 1 << 28};
      return odd[random.nextInt(odd.length)];
    }

    /** Mostly within the bounds, at times just beyond, at times far. */
    int some(int low, int high) {
      int kind = random.nextInt(40);
      if (kind == 0) return low - 1;
      if (kind == 1) return high + 1;
      if (kind == 2) return odd();
      if (kind == 3) return low;
      if (kind == 4) return high;
      return low + random.nextInt(high - low + 1);
    }

    int someNote() { return some(0, Math.max(0, plain.size() - 1)); }

    int someOn() { return random.nextInt(20) == 0 ? some(0, 99) : random.nextInt(span); }

    int someLength() { return random.nextInt(20) == 0 ? some(1, 32) : 1 + random.nextInt(4); }

    int somePitch() { return random.nextInt(20) == 0 ? some(0, 127) : 50 + random.nextInt(random.nextBoolean() ? 4 : 30); }

    void answer(String call, int got, int want) {
      this.call = call;
      this.got = got;
      this.want = want;
    }

    void ask() {
      int a, b;
      switch (random.nextInt(7)) {
        case 0: a = some(0, 15); answer("told(" + a + ")", x.told(a), plain.told(a)); break;
        case 1: a = someNote(); b = some(0, 7); answer("at(" + a + ", " + b + ")", x.at(a, b), plain.at(a, b)); break;
        case 2: a = someNote(); b = someNote(); answer("cost(" + a + ", " + b + ")", x.cost(a, b), plainCost(a, b)); break;
        case 3: a = some(0, 10); answer("least(" + a + ")", x.least(a), plainLeast(a)); break;
        case 4: a = some(0, 10); b = someNote(); answer("first(" + a + ", " + b + ")", x.first(a, b), plain.first(a, b)); break;
        case 5: a = someNote(); b = some(0, 6); answer("voice(" + a + ", " + b + ")", x.voice(a, b), plain.voice(a, b)); break;
        default: a = someNote(); b = some(0, 4); answer("member(" + a + ", " + b + ")", x.member(a, b), plain.member(a, b)); break;
      }
    }

    int plainCost(int a, int b) { return plain.has(a) && plain.has(b) ? plain.cost(a, b) : UNKNOWN; }

    int plainLeast(int k) { return k < 0 || k > 10 ? OUTSIDE : new Plain.Search(plain.now).least[k]; }

    void changeNotes() {
      int i = someNote(), on = someOn(), length = someLength(), pitch = somePitch(), which = some(0, 4);
      int v = some(0, new int[] {9, 9, 99, 999, 99}[Math.floorMod(which, 5)]);
      switch (random.nextInt(12)) {
        case 0: answer("take(" + i + ")", x.take(i), plain.take(i)); break;
        case 1: answer("move(" + i + ", " + on + ", " + length + ", " + pitch + ")", x.move(i, on, length, pitch), plain.move(i, on, length, pitch)); break;
        case 2: answer("share(" + i + ")", x.share(i), plain.share(i)); break;
        case 3: answer("term(" + which + ", " + v + ")", x.term(which, v), plain.term(which, v)); break;
        case 4: if (random.nextInt(8) == 0) answer("clear()", x.clear(), plain.clear()); break;
        case 5: if (random.nextInt(3) == 0) { int n = some(1, 10); answer("drift(" + n + ")", x.drift(n), plain.drift(n)); } break;
        default: answer("note(" + on + ", " + length + ", " + pitch + ")", x.note(on, length, pitch), plain.note(on, length, pitch)); break;
      }
    }

    void changeLines() {
      int a = someNote(), b = someNote(), k = some(-1, 10);
      switch (random.nextInt(10)) {
        case 0: answer("cut(" + a + ")", x.cut(a), plain.cut(a)); break;
        case 1: answer("part(" + k + ")", x.part(k), plain.part(k)); break;
        case 2: answer("mend()", x.mend(), plain.mend()); break;
        default: answer("follow(" + a + ", " + b + ")", x.follow(a, b), plain.follow(a, b)); break;
      }
    }

    void changeOther() {
      int i = some(0, 1), n = some(1, random.nextInt(8) == 0 ? 16 : 3), k = some(0, 10);
      switch (random.nextInt(12)) {
        case 0: { int v = random.nextInt(4) == 0 ? odd() : random.nextInt(Integer.MAX_VALUE); answer("seed(" + v + ")", x.seed(v), plain.seed(v)); break; }
        case 1: answer("keep(" + i + ")", x.keep(i), plain.keep(i)); break;
        case 2: answer("goBack(" + i + ")", x.goBack(i), plain.goBack(i)); break;
        case 3: if (random.nextInt(6) == 0) answer("tear()", x.tear(), plain.tear()); break;
        case 4: case 5: case 6: {
          int v = random.nextInt(8) == 0 ? odd() : plainLeast(Math.floorMod(k, 11));
          answer("write(" + k + ", " + v + ")", x.write(k, v), plain.write(k, v));
          break;
        }
        default: answer("undo(" + n + ")", x.undo(n), plain.undo(n)); break;
      }
    }

    void step() {
      int kind = random.nextInt(10);
      if (kind < 5) ask();
      else if (kind < 7) changeNotes();
      else if (kind < 9) changeLines();
      else changeOther();
    }

    /** All that can be asked cheaply, in one row of numbers; asked in every other run alone, as asking must not be needed. */
    String whole(boolean ofPlain) {
      StringBuilder row = new StringBuilder();
      for (int what : new int[] {0, 1, 2, 6, 7, 8, 9, 10, 11, 12, 14, 15}) row.append(ofPlain ? plain.told(what) : x.told(what)).append(' ');
      for (int i = 0; i < plain.size(); i++) {
        for (int what = 0; what < 6; what++) row.append(ofPlain ? plain.at(i, what) : x.at(i, what)).append(' ');
      }
      return row.toString();
    }

    boolean isWholeAsDue(int calls) {
      String is = whole(false);
      String due = whole(true);
      if (is.equals(due)) return true;
      System.out.println("run " + number + ", call " + calls + ": after " + call + " is so: " + is + ", due is: " + due);
      return false;
    }

    boolean go() {
      for (int calls = 1; calls <= MOST_CALLS; calls++) {
        step();
        if (got != want) {
          System.out.println("run " + number + ", call " + calls + ": " + call + " answered " + got + ", due is " + want);
          return false;
        }
        int asked = 12 + 6 * plain.size();
        if (number % 2 == 0 && random.nextInt(20) == 0 && calls + asked <= MOST_CALLS) {
          if (!isWholeAsDue(calls)) return false;
          calls += asked;
        }
      }
      return true;
    }
  }

  public static void main(String[] args) {
    int wrong = 0;
    for (int number = 0; number < RUNS && wrong < 10; number++) {
      if (!new Run(number).go()) wrong++;
    }
    System.out.println(wrong == 0 ? "all runs are as due" : wrong + " runs are not as due");
    if (wrong != 0) System.exit(1);
  }
}
