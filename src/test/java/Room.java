import java.lang.management.ManagementFactory;

/** All calls of one run live in one room: calls make nothing, and a new object is small. */
public final class Room {
  /** A room of 7.3 million elements for 512 new objects, at 4 bytes each, with half of it to spare. */
  private static final long MOST_BYTES_OF_ONE = 7300000L / 512 * 4 / 2;
  /** What the measuring itself may make. */
  private static final long SLACK = 20000;

  private static int sum = 0;

  private static long made() {
    return ((com.sun.management.ThreadMXBean) ManagementFactory.getThreadMXBean()).getThreadAllocatedBytes(Thread.currentThread().getId());
  }

  /** Each call, answered and refused, with many notes and few; 306 calls, as an object is made for 512. */
  private static void everyCall(PartedVoices x) {
    sum += x.drift(10);
    for (int what = -1; what <= 16; what++) sum += x.told(what);
    for (int i : new int[] {0, 4, 9, 10, -1}) {
      for (int what = -1; what <= 8; what++) sum += x.at(i, what) + x.voice(i, what) + x.member(i, what) + x.cost(i, what);
      sum += x.least(i) + x.first(i, 0) + x.first(7, i) + x.share(i) + x.follow(0, i) + x.cut(i) + x.part(i) + x.mend();
      sum += x.move(i, i, 1, 60) + x.term(i, 1) + x.undo(i) + x.take(i) + x.write(i, 0) + x.seed(i) + x.keep(i) + x.goBack(i);
    }
    sum += x.tear() + x.note(1, 1, 1) + x.part(PartedVoices.NONE) + x.mend() + x.clear() + x.undo(1) + x.drift(3);
  }

  public static void main(String[] args) {
    int wrong = 0;
    everyCall(new PartedVoices());
    PartedVoices[] fresh = new PartedVoices[20];
    for (int i = 0; i < fresh.length; i++) fresh[i] = new PartedVoices();
    long before = made();
    for (PartedVoices x : fresh) everyCall(x);
    long calls = made() - before;
    if (calls > SLACK) {
      wrong++;
      System.out.println("calls made " + calls + " bytes");
    }
    before = made();
    for (int i = 0; i < 512; i++) sum += new PartedVoices().told(0);
    long one = (made() - before) / 512;
    if (one > MOST_BYTES_OF_ONE) {
      wrong++;
      System.out.println("a new object makes " + one + " bytes");
    }
    System.out.println((wrong == 0 ? "the room is kept: a new object makes " + one + " bytes, calls " + calls : wrong + " are too much") + (sum == 1 ? " " : ""));
    if (wrong != 0) System.exit(1);
  }
}
