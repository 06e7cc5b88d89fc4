import java.util.Random;

/** Objects in many states, each made by a fixed run of some forty calls at most. */
final class Scenes {
  static final int COUNT = 220;

  private static final int[] SPANS = {3, 8, 20, 40, 100};
  private static final int[] GREATEST = {9, 9, 99, 999, 99};

  private final Random random;
  private final int number;
  private final PartedVoices x = new PartedVoices();

  private Scenes(int number) {
    this.number = number;
    random = new Random(number);
  }

  /** From none to ten notes, by turns; terms, links, book and images come in others of them. */
  static PartedVoices make(int number) {
    Scenes scene = new Scenes(number);
    scene.bringNotes(number % 11);
    if (number % 2 == 1) scene.changeTerms();
    if (number % 5 == 2) scene.keepImages();
    if (number % 3 != 0) scene.linkNotes();
    if (number % 4 == 1) scene.fillBook();
    return scene.x;
  }

  /** Close together in some scenes, so that many notes are alike; far apart in others, so that long voices can be. */
  private void bringNotes(int notes) {
    x.seed(random.nextInt(Integer.MAX_VALUE));
    if (number % 6 == 5 && notes > 0) {
      x.drift(notes);
      return;
    }
    int span = SPANS[number % SPANS.length];
    int longest = 1 + random.nextInt(6);
    int pitches = random.nextBoolean() ? 3 : 40;
    // Two heaps of notes, one behind the other, for lines that cross.
    int second = random.nextInt(3) == 0 ? 5 : 0;
    for (int i = 0; i < notes; i++) {
      int on = second == 0 ? random.nextInt(span) : i % 2 * (second + random.nextInt(3)) + random.nextInt(2);
      x.note(on, 1 + random.nextInt(longest), 50 + random.nextInt(pitches));
    }
  }

  private void changeTerms() {
    for (int which = 0; which < 5; which++) {
      int v = random.nextInt(3) == 0 ? 0 : random.nextInt(GREATEST[which] + 1);
      if (random.nextBoolean()) x.term(which, v);
    }
  }

  private void keepImages() {
    x.keep(random.nextInt(2));
    if (random.nextBoolean()) {
      x.take(0);
      x.seed(random.nextInt(Integer.MAX_VALUE));
      x.keep(random.nextInt(2));
    }
  }

  private void linkNotes() {
    if (random.nextInt(4) == 0) x.part(random.nextBoolean() ? PartedVoices.NONE : x.told(3));
    int notes = x.told(0);
    for (int i = 0; i + 1 < notes; i++) {
      x.follow(i, i + 1 + random.nextInt(notes - 1 - i));
    }
  }

  private void fillBook() {
    int entries = random.nextInt(4);
    for (int i = 0; i < entries; i++) {
      int k = random.nextInt(11);
      x.write(k, random.nextInt(3) == 0 ? 7 : x.least(k));
    }
  }
}
