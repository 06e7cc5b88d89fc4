import java.util.Arrays;

/** What an object tells of its notes, terms and nexts, read once by 46 calls at most. */
final class Seen {
  static final int STEP = 0, GAP = 1, LEAP = 2, ENTRY = 3, LONGEST = 4;

  final int count;
  final int[] on, off, pitch, next;
  final int[] terms = new int[5];

  Seen(PartedVoices x) {
    count = Math.max(0, x.told(0));
    on = column(x, 0);
    off = column(x, 1);
    pitch = column(x, 2);
    next = column(x, 3);
    for (int which = 0; which < 5; which++) terms[which] = x.told(7 + which);
  }

  private int[] column(PartedVoices x, int what) {
    int[] column = new int[count];
    for (int i = 0; i < count; i++) column[i] = x.at(i, what);
    return column;
  }

  int length(int i) {
    return off[i] - on[i];
  }

  boolean mayFollow(int a, int b) {
    return on[b] >= off[a] && on[b] - off[a] <= terms[LONGEST];
  }

  int cost(int a, int b) {
    if (!mayFollow(a, b)) return -1;
    int apart = pitch[a] > pitch[b] ? pitch[a] - pitch[b] : pitch[b] - pitch[a];
    return terms[STEP] * apart + terms[GAP] * (on[b] - off[a]) + (apart > 12 ? terms[LEAP] : 0);
  }

  boolean sameOn(int i, int j) {
    return on[i] == on[j] && pitch[i] == pitch[j] && off[i] == off[j];
  }

  /** The note whose next it is; -1: none. */
  int ahead(int i) {
    for (int a = 0; a < count; a++) if (next[a] == i) return a;
    return -1;
  }

  int voices() {
    int firsts = 0;
    for (int i = 0; i < count; i++) if (ahead(i) == -1) firsts++;
    return firsts;
  }

  /** The notes of the voice that begins as the v-th. */
  int[] voice(int v) {
    int first = -1;
    for (int i = 0, seen = 0; i < count; i++) {
      if (ahead(i) == -1 && seen++ == v) first = i;
    }
    int[] row = new int[count];
    int size = 0;
    for (int i = first; i != -1; i = next[i]) row[size++] = i;
    return Arrays.copyOf(row, size);
  }

  int costOfNexts() {
    int cost = terms[ENTRY] * voices();
    for (int i = 0; i < count; i++) if (next[i] != -1) cost += cost(i, next[i]);
    return cost;
  }

  boolean cross(int a, int c) {
    int b = next[a], d = next[c];
    if (b == -1 || d == -1 || on[a] >= on[d] || on[c] >= on[b]) return false;
    return Integer.signum(pitch[a] - pitch[c]) * Integer.signum(pitch[b] - pitch[d]) == -1;
  }

  int crossings() {
    int found = 0;
    for (int a = 0; a < count; a++) for (int c = a + 1; c < count; c++) if (cross(a, c)) found++;
    return found;
  }

  /** Changes the nexts that were read, not the object. */
  int mend() {
    int times = 0;
    boolean again = true;
    while (again && times < 50) {
      again = mendFirst();
      if (again) times++;
    }
    return times;
  }

  private boolean mendFirst() {
    for (int a = 0; a < count; a++) {
      for (int c = a + 1; c < count; c++) {
        if (!cross(a, c) || !mayFollow(a, next[c]) || !mayFollow(c, next[a])) continue;
        int was = next[a];
        next[a] = next[c];
        next[c] = was;
        return true;
      }
    }
    return false;
  }

  /** All of it in one row, to compare. */
  int[] row() {
    int[] row = new int[5 + 4 * count];
    System.arraycopy(terms, 0, row, 0, 5);
    for (int i = 0; i < count; i++) {
      row[5 + 4 * i] = on[i];
      row[6 + 4 * i] = off[i];
      row[7 + 4 * i] = pitch[i];
      row[8 + 4 * i] = next[i];
    }
    return row;
  }
}
