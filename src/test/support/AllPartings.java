import java.util.Arrays;

/** Every parting of the notes seen, tried one by one in the order in which FIRST is told. */
final class AllPartings {
  final int[] least = new int[11];
  /** By the number of voices; null: there is no such parting. */
  final int[][] first = new int[11][];

  private final Seen seen;
  private final int[] next;
  private final boolean[] taken;

  AllPartings(Seen seen) {
    this.seen = seen;
    next = new int[seen.count];
    taken = new boolean[seen.count];
    Arrays.fill(least, -1);
    tryFrom(0, seen.count, 0);
  }

  private void tryFrom(int i, int voices, int lines) {
    if (i == seen.count) {
      int cost = lines + voices * seen.terms[Seen.ENTRY];
      if (first[voices] == null || cost < least[voices]) {
        least[voices] = cost;
        first[voices] = next.clone();
      }
      return;
    }
    next[i] = -1;
    tryFrom(i + 1, voices, lines);
    for (int b = 0; b < seen.count; b++) {
      if (taken[b] || !seen.mayFollow(i, b)) continue;
      taken[b] = true;
      next[i] = b;
      tryFrom(i + 1, voices - 1, lines + seen.cost(i, b));
      taken[b] = false;
    }
  }

  int fewest() {
    int k = 0;
    while (first[k] == null) k++;
    return k;
  }

  int cheapest() {
    int cheapest = fewest();
    for (int k = 0; k <= 10; k++) if (first[k] != null && least[k] < least[cheapest]) cheapest = k;
    return cheapest;
  }
}
