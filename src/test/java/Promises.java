/** Each promise of the document by runs made by hand: ordinary inputs, edges, wrong inputs. */
public final class Promises {
  private static final int NONE = -1, UNKNOWN = -1000000001, OUTSIDE = -1000000002, NOT = -1000000003, FULL = -1000000004;
  private static final int[] FAR = {Integer.MIN_VALUE, Integer.MAX_VALUE, 1 << 28, -1000000001};

  private static int wrong = 0;
  private static int promise = 0;

  private static void due(String call, int got, int want) {
    if (got != want) {
      wrong++;
      System.out.println("promise " + promise + ": " + call + " answered " + got + ", due is " + want);
    }
  }

  /** What told() answers for 0 to 15 but for those that a row names NOT. */
  private static void dueTold(PartedVoices x, int... wants) {
    for (int what = 0; what < wants.length; what++) {
      if (wants[what] != NOT) due("told(" + what + ")", x.told(what), wants[what]);
    }
  }

  private static void dueLeast(PartedVoices x, int... wants) {
    for (int k = 0; k <= 10; k++) due("least(" + k + ")", x.least(k), k < wants.length ? wants[k] : NONE);
  }

  private static void dueNext(PartedVoices x, int... wants) {
    due("notes", x.told(0), wants.length);
    for (int i = 0; i < wants.length; i++) due("at(" + i + ", 3)", x.at(i, 3), wants[i]);
  }

  private static void dueFirst(PartedVoices x, int k, int... wants) {
    for (int i = 0; i < wants.length; i++) due("first(" + k + ", " + i + ")", x.first(k, i), wants[i]);
  }

  /** Notes by ON, OFF, PITCH. */
  private static void dueNotes(PartedVoices x, int... wants) {
    due("notes", x.told(0), wants.length / 3);
    for (int i = 0; i < wants.length; i++) due("at(" + i / 3 + ", " + i % 3 + ")", x.at(i / 3, i % 3), wants[i]);
  }

  /** Four notes: 60 and 72 sound from 0 to 4, 59 and 74 from 4 to 8. */
  private static PartedVoices four() {
    PartedVoices x = new PartedVoices();
    x.note(0, 4, 60);
    x.note(0, 4, 72);
    x.note(4, 4, 59);
    x.note(4, 4, 74);
    return x;
  }

  /** So many notes of one pitch, each beginning as the one ahead ends. */
  private static PartedVoices chain(int notes) {
    PartedVoices x = new PartedVoices();
    for (int i = 0; i < notes; i++) x.note(i, 1, 60);
    return x;
  }

  private static void newObject() {
    promise = 1;
    PartedVoices x = new PartedVoices();
    dueTold(x, 0, 0, 0, 0, 0, 0, 0, 1, 1, 10, 20, 16, 0, NONE, 0, 0);
    dueLeast(x, 0);
    due("at(0, 0)", x.at(0, 0), UNKNOWN);
    due("voice(0, 0)", x.voice(0, 0), UNKNOWN);
    due("goBack(0)", x.goBack(0), NOT);
    due("goBack(1)", x.goBack(1), NOT);
    due("undo(1)", x.undo(1), NOT);
    PartedVoices other = new PartedVoices();
    x.note(1, 1, 1);
    x.term(3, 7);
    x.seed(9);
    x.write(1, 7);
    x.keep(0);
    dueTold(other, 0, 0, 0, 0, 0, 0, 0, 1, 1, 10, 20, 16, 0, NONE, 0, 0);
    due("goBack(0) of another", other.goBack(0), NOT);
  }

  private static void told() {
    promise = 2;
    PartedVoices x = four();
    dueTold(x, 4, 4, 80, 2, 2, 43, 0, 1, 1, 10, 20, 16, 0, NONE, 4, 0);
    x.follow(0, 3);
    x.follow(1, 2);
    dueTold(x, 4, 2, 87, 2, 2, 43, 1);
    due("term", x.term(0, 2), 1);
    due("term", x.term(1, 3), 1);
    due("term", x.term(2, 4), 10);
    due("term", x.term(3, 5), 20);
    due("term", x.term(4, 6), 16);
    // 4 voices cost 20; 60 to 59 costs 2, 72 to 74 costs 4: two voices cost 16.
    dueTold(x, 4, 4, 20, 2, 2, 16, 0, 2, 3, 4, 5, 6, 0, NONE, 11, 0);
    x.write(2, 16);
    x.write(4, 20);
    x.write(3, 99);
    x.write(1, 5);
    due("told(12)", x.told(12), 4);
    due("told(13)", x.told(13), 2);
    x.seed(77);
    due("told(15)", x.told(15), 77);
    due("told(16)", x.told(16), OUTSIDE);
    due("told(-1)", x.told(-1), OUTSIDE);
    for (int far : FAR) due("told(" + far + ")", x.told(far), OUTSIDE);
    // Of like ones the least k is CHEAPEST; FEWEST may be another.
    PartedVoices y = four();
    y.term(3, 1);
    dueLeast(y, NONE, NONE, 5, 4, 4);
    due("told(3)", y.told(3), 2);
    due("told(4)", y.told(4), 3);
    due("told(5)", y.told(5), 4);
    y.term(3, 0);
    dueTold(y, 4, 4, 0, 2, 4, 0);
    // Ten voices, as they must be, and as they are cheapest.
    PartedVoices z = new PartedVoices();
    for (int i = 0; i < 10; i++) z.note(5, 1, i);
    dueTold(z, 10, 10, 200, 10, 10, 200);
    z.clear();
    for (int i = 0; i < 10; i++) z.note(i, 1, 10 + i);
    dueTold(z, 10, 10, 200, 1, 1, 29);
    z.term(3, 0);
    dueTold(z, 10, 10, 0, 1, 10, 0);
    crossings();
  }

  private static void crossings() {
    // Lines of one pitch at an end do not cross.
    PartedVoices x = new PartedVoices();
    x.note(0, 2, 60);
    x.note(0, 2, 60);
    x.note(2, 2, 50);
    x.note(2, 2, 70);
    x.follow(0, 3);
    x.follow(1, 2);
    due("told(6)", x.told(6), 0);
    x.follow(0, 2);
    x.follow(1, 3);
    due("told(6)", x.told(6), 0);
    x.move(3, 2, 2, 50);
    x.move(1, 0, 2, 61);
    x.follow(0, 3);
    x.follow(1, 2);
    due("told(6)", x.told(6), 0);
    x.follow(0, 2);
    x.follow(1, 3);
    due("told(6)", x.told(6), 0);
    dueDownward();
    // a to b ends as c begins: not at once, ON of c is not less than ON of b.
    PartedVoices y = new PartedVoices();
    y.note(0, 2, 50);
    y.note(2, 2, 60);
    y.note(2, 2, 70);
    y.note(4, 2, 40);
    y.follow(0, 2);
    y.follow(1, 3);
    due("told(6)", y.told(6), 0);
    // ON of c is less than ON of b by one: they cross, c beginning later.
    y.move(1, 1, 2, 60);
    y.follow(0, 2);
    y.follow(1, 3);
    due("told(6)", y.told(6), 1);
    // Three lines to the notes in the turned order: three pairs.
    PartedVoices z = new PartedVoices();
    for (int pitch = 50; pitch < 53; pitch++) z.note(0, 1, pitch);
    for (int pitch = 50; pitch < 53; pitch++) z.note(1, 1, pitch);
    for (int i = 0; i < 3; i++) z.follow(i, 5 - i);
    due("told(6)", z.told(6), 3);
  }

  /** The one that begins first has the greater pitch, by one at least at both ends, and is below then. */
  private static void dueDownward() {
    for (int from = 59; from <= 61; from++) {
      for (int to = 59; to <= 61; to++) {
        PartedVoices x = new PartedVoices();
        x.note(0, 2, 60);
        x.note(1, 2, from);
        x.note(4, 2, 60);
        x.note(5, 2, to);
        x.follow(0, 2);
        x.follow(1, 3);
        boolean cross = from == 59 && to == 61 || from == 61 && to == 59;
        due("told(6), from " + from + " to " + to, x.told(6), cross ? 1 : 0);
      }
    }
  }

  private static void at() {
    promise = 3;
    PartedVoices x = four();
    x.note(9, 3, 61);
    x.follow(0, 2);
    x.follow(2, 4);
    int[][] wants = {
      {0, 4, 60, 2, NONE, 0}, {0, 4, 72, NONE, NONE, 1}, {4, 8, 59, 4, 0, 0}, {4, 8, 74, NONE, NONE, 2}, {9, 12, 61, NONE, 2, 0}};
    for (int i = 0; i < 5; i++) {
      for (int what = 0; what < 6; what++) due("at(" + i + ", " + what + ")", x.at(i, what), wants[i][what]);
    }
    x.cut(0);
    due("at(4, 5), after a cut", x.at(4, 5), 2);
    x.follow(0, 2);
    due("at(4, 5), after it follows again", x.at(4, 5), 0);
    x.cut(2);
    due("at(4, 4), after a cut", x.at(4, 4), NONE);
    x.cut(1);
    x.follow(2, 4);
    int[] followers = {3, 3, 1, 1, 0};
    for (int i = 0; i < 5; i++) due("at(" + i + ", 7)", x.at(i, 7), followers[i]);
    due("at(0, 8)", x.at(0, 8), OUTSIDE);
    due("at(0, -1)", x.at(0, -1), OUTSIDE);
    due("at(5, 0)", x.at(5, 0), UNKNOWN);
    due("at(-1, 0)", x.at(-1, 0), UNKNOWN);
    due("at(5, 8)", x.at(5, 8), UNKNOWN);
    for (int far : FAR) {
      due("at(" + far + ", 0)", x.at(far, 0), UNKNOWN);
      due("at(0, " + far + ")", x.at(0, far), OUTSIDE);
    }
    prices();
    longest();
  }

  private static void prices() {
    // The one note costs its entry; the first of a chain nothing, as the others cost no less without it.
    PartedVoices x = chain(1);
    due("at(0, 6)", x.at(0, 6), 20);
    x = chain(3);
    due("at(0, 6)", x.at(0, 6), 0);
    // Without it the first goes to the last with a rest of one: 21, with it 20.
    due("at(1, 6)", x.at(1, 6), -1);
    x.follow(0, 1);
    due("at(1, 6)", x.at(1, 6), -1);
    // Where none may rest, the middle saves an entry.
    x.term(4, 0);
    due("at(1, 6)", x.at(1, 6), -20);
    due("at(2, 6)", x.at(2, 6), 0);
    due("told(14)", x.told(14), 5);
  }

  private static void longest() {
    PartedVoices x = new PartedVoices();
    x.note(0, 1, 10);
    x.note(17, 1, 10);
    x.note(18, 1, 10);
    due("at(0, 7)", x.at(0, 7), 1);
    x.term(4, 17);
    due("at(0, 7)", x.at(0, 7), 2);
    x.term(4, 0);
    due("at(0, 7)", x.at(0, 7), 0);
    due("at(1, 7)", x.at(1, 7), 1);
  }

  private static void cost() {
    promise = 4;
    PartedVoices x = new PartedVoices();
    x.note(0, 4, 60);
    x.note(3, 1, 60);
    x.note(4, 1, 72);
    x.note(5, 1, 47);
    x.note(20, 1, 73);
    x.note(21, 1, 60);
    due("cost(0, 1)", x.cost(0, 1), NONE);
    due("cost(0, 2)", x.cost(0, 2), 12);
    due("cost(0, 3)", x.cost(0, 3), 24);
    due("cost(0, 4)", x.cost(0, 4), 39);
    due("cost(0, 5)", x.cost(0, 5), NONE);
    due("cost(2, 0)", x.cost(2, 0), NONE);
    due("cost(0, 0)", x.cost(0, 0), NONE);
    x.term(0, 3);
    x.term(1, 5);
    x.term(2, 99);
    due("cost(0, 2)", x.cost(0, 2), 36);
    due("cost(0, 3)", x.cost(0, 3), 39 + 5 + 99);
    due("cost(0, 4)", x.cost(0, 4), 39 + 80 + 99);
    x.term(4, 17);
    due("cost(0, 5)", x.cost(0, 5), 85);
    due("cost(6, 0)", x.cost(6, 0), UNKNOWN);
    due("cost(0, 6)", x.cost(0, 6), UNKNOWN);
    due("cost(-1, 0)", x.cost(-1, 0), UNKNOWN);
    due("cost(0, -1)", x.cost(0, -1), UNKNOWN);
    for (int far : FAR) due("cost(0, " + far + ")", x.cost(0, far), UNKNOWN);
    // The dearest line that there is.
    PartedVoices y = new PartedVoices();
    y.note(0, 1, 0);
    y.note(99, 32, 127);
    y.term(0, 9);
    y.term(1, 9);
    y.term(2, 99);
    y.term(4, 99);
    due("cost(0, 1)", y.cost(0, 1), 127 * 9 + 98 * 9 + 99);
    y.term(4, 97);
    due("cost(0, 1)", y.cost(0, 1), NONE);
  }

  private static void least() {
    promise = 5;
    dueLeast(four(), NONE, NONE, 43, 61, 80);
    dueLeast(chain(10), NONE, 20, 40, 60, 80, 100, 120, 140, 160, 180, 200);
    PartedVoices x = chain(10);
    x.term(4, 0);
    x.term(3, 999);
    dueLeast(x, NONE, 999, 1998, 2997, 3996, 4995, 5994, 6993, 7992, 8991, 9990);
    // Ten at once are ten voices or nothing.
    PartedVoices y = new PartedVoices();
    for (int i = 0; i < 10; i++) y.note(5, 1, i);
    dueLeast(y, NONE, NONE, NONE, NONE, NONE, NONE, NONE, NONE, NONE, NONE, 200);
    y.clear();
    dueLeast(y, 0);
    // One voice may cost more than two: 13 apart and back.
    PartedVoices z = new PartedVoices();
    z.note(0, 1, 60);
    z.note(1, 1, 73);
    z.note(2, 1, 60);
    dueLeast(z, NONE, 66, 41, 60);
    due("least(-1)", z.least(-1), OUTSIDE);
    due("least(11)", z.least(11), OUTSIDE);
    for (int far : FAR) due("least(" + far + ")", z.least(far), OUTSIDE);
    // Asking changes nothing.
    z.follow(0, 1);
    z.least(1);
    dueNext(z, 1, NONE, NONE);
  }

  private static void first() {
    promise = 6;
    PartedVoices x = four();
    dueFirst(x, 2, 2, 3, NONE, NONE);
    dueFirst(x, 3, 2, NONE, NONE, NONE);
    dueFirst(x, 4, NONE, NONE, NONE, NONE);
    dueFirst(x, 1, NOT, NOT, NOT, NOT);
    dueFirst(x, 0, NOT, NOT, NOT, NOT);
    dueFirst(x, 10, NOT, NOT, NOT, NOT);
    // Where all cost the same, the first note has no next before all others: NONE is the least.
    PartedVoices y = chain(4);
    y.term(0, 0);
    y.term(1, 0);
    dueFirst(y, 1, 1, 2, 3, NONE);
    dueFirst(y, 2, NONE, 2, 3, NONE);
    dueFirst(y, 3, NONE, NONE, 3, NONE);
    // Of two like notes the one with the less number follows the first.
    PartedVoices z = new PartedVoices();
    z.note(0, 1, 60);
    z.note(0, 1, 60);
    z.note(1, 1, 60);
    z.note(1, 1, 60);
    dueFirst(z, 2, 2, 3, NONE, NONE);
    dueFirst(z, 3, NONE, 2, NONE, NONE);
    due("first(2, 4)", z.first(2, 4), UNKNOWN);
    due("first(2, -1)", z.first(2, -1), UNKNOWN);
    due("first(11, 4)", z.first(11, 4), UNKNOWN);
    due("first(11, 0)", z.first(11, 0), OUTSIDE);
    due("first(-1, 0)", z.first(-1, 0), OUTSIDE);
    for (int far : FAR) {
      due("first(" + far + ", 0)", z.first(far, 0), OUTSIDE);
      due("first(2, " + far + ")", z.first(2, far), UNKNOWN);
    }
    dueNext(z, NONE, NONE, NONE, NONE);
    dueFirst(chain(10), 1, 1, 2, 3, 4, 5, 6, 7, 8, 9, NONE);
    dueFirst(chain(10), 9, NONE, NONE, NONE, NONE, NONE, NONE, NONE, NONE, 9, NONE);
  }

  private static void voice() {
    promise = 7;
    PartedVoices x = new PartedVoices();
    x.note(0, 2, 60);
    x.note(1, 2, 80);
    x.note(4, 2, 50);
    x.note(5, 1, 81);
    x.note(9, 3, 55);
    x.follow(0, 2);
    x.follow(2, 4);
    // 60, 50, 55 with rests of 2 and 3: 10 + 2 and 5 + 3.
    int[] wants = {3, 0, 4, 50, 60, 5, 20 + 12 + 8};
    for (int what = 0; what < 7; what++) due("voice(0, " + what + ")", x.voice(0, what), wants[what]);
    int[] single = {1, 3, 3, 81, 81, 0, 20};
    for (int what = 0; what < 7; what++) due("voice(2, " + what + ")", x.voice(2, what), single[what]);
    due("voice(1, 1)", x.voice(1, 1), 1);
    due("voice(3, 0)", x.voice(3, 0), UNKNOWN);
    due("voice(3, 7)", x.voice(3, 7), UNKNOWN);
    due("voice(-1, 0)", x.voice(-1, 0), UNKNOWN);
    due("voice(0, 7)", x.voice(0, 7), OUTSIDE);
    due("voice(0, -1)", x.voice(0, -1), OUTSIDE);
    // The highest and the lowest may stand anywhere in it.
    for (int turn = 0; turn < 3; turn++) {
      PartedVoices y = new PartedVoices();
      for (int i = 0; i < 3; i++) y.note(i, 1, 60 + (i + turn) % 3);
      y.part(1);
      due("voice(0, 3), turn " + turn, y.voice(0, 3), 60);
      due("voice(0, 4), turn " + turn, y.voice(0, 4), 62);
    }
    x.follow(1, 3);
    due("voice(1, 0)", x.voice(1, 0), 2);
    due("voice(1, 2)", x.voice(1, 2), 3);
    due("voice(2, 0)", x.voice(2, 0), UNKNOWN);
    for (int far : FAR) {
      due("voice(" + far + ", 0)", x.voice(far, 0), UNKNOWN);
      due("voice(0, " + far + ")", x.voice(0, far), OUTSIDE);
    }
  }

  private static void member() {
    promise = 8;
    PartedVoices x = chain(6);
    x.follow(0, 2);
    x.follow(2, 5);
    x.follow(1, 4);
    int[][] voices = {{0, 2, 5, NONE, NONE}, {1, 4, NONE}, {3, NONE}};
    for (int v = 0; v < 3; v++) {
      for (int i = 0; i < voices[v].length; i++) due("member(" + v + ", " + i + ")", x.member(v, i), voices[v][i]);
    }
    due("member(0, max)", x.member(0, Integer.MAX_VALUE), NONE);
    due("member(0, -1)", x.member(0, -1), OUTSIDE);
    due("member(0, min)", x.member(0, Integer.MIN_VALUE), OUTSIDE);
    due("member(3, 0)", x.member(3, 0), UNKNOWN);
    due("member(3, -1)", x.member(3, -1), UNKNOWN);
    due("member(-1, 0)", x.member(-1, 0), UNKNOWN);
    for (int far : FAR) due("member(" + far + ", 0)", x.member(far, 0), UNKNOWN);
    PartedVoices y = chain(10);
    y.part(1);
    for (int i = 0; i < 10; i++) due("member(0, " + i + ")", y.member(0, i), i);
    due("member(0, 10)", y.member(0, 10), NONE);
  }

  private static void note() {
    promise = 9;
    PartedVoices x = new PartedVoices();
    due("note", x.note(10, 5, 60), 0);
    due("note, later", x.note(11, 1, 0), 1);
    due("note, earlier", x.note(9, 32, 127), 0);
    due("note, lower", x.note(10, 32, 59), 1);
    due("note, higher", x.note(10, 1, 61), 3);
    due("note, shorter", x.note(10, 4, 60), 2);
    due("note, longer", x.note(10, 6, 60), 4);
    due("note, like one", x.note(10, 5, 60), 4);
    dueNotes(x, 9, 41, 127, 10, 42, 59, 10, 14, 60, 10, 15, 60, 10, 15, 60, 10, 16, 60, 10, 11, 61, 11, 12, 0);
    due("note, least", x.note(0, 1, 0), 0);
    due("note, greatest", x.note(99, 32, 127), 9);
    due("note, eleventh", x.note(5, 5, 5), FULL);
    due("note, eleventh, wrong", x.note(100, 5, 5), OUTSIDE);
    due("told(14)", x.told(14), 10);
    int[][] wrongs = {{-1, 1, 0}, {100, 1, 0}, {0, 0, 0}, {0, 33, 0}, {0, 1, -1}, {0, 1, 128}};
    PartedVoices y = chain(2);
    y.follow(0, 1);
    for (int[] w : wrongs) due("note(" + w[0] + ", " + w[1] + ", " + w[2] + ")", y.note(w[0], w[1], w[2]), OUTSIDE);
    for (int far : FAR) {
      due("note(" + far + ", 1, 0)", y.note(far, 1, 0), OUTSIDE);
      due("note(0, " + far + ", 0)", y.note(0, far, 0), OUTSIDE);
      due("note(0, 1, " + far + ")", y.note(0, 1, far), OUTSIDE);
    }
    dueNext(y, 1, NONE);
    due("told(14)", y.told(14), 3);
    y.note(50, 1, 1);
    dueNext(y, NONE, NONE, NONE);
  }

  private static void take() {
    promise = 10;
    PartedVoices x = four();
    x.follow(0, 2);
    due("take(4)", x.take(4), UNKNOWN);
    due("take(-1)", x.take(-1), UNKNOWN);
    for (int far : FAR) due("take(" + far + ")", x.take(far), UNKNOWN);
    dueNext(x, 2, NONE, NONE, NONE);
    due("told(14)", x.told(14), 5);
    due("take(3)", x.take(3), 3);
    dueNext(x, NONE, NONE, NONE);
    dueNotes(x, 0, 4, 60, 0, 4, 72, 4, 8, 59);
    due("take(0)", x.take(0), 2);
    dueNotes(x, 0, 4, 72, 4, 8, 59);
    due("take(1)", x.take(1), 1);
    due("take(0)", x.take(0), 0);
    due("take(0)", x.take(0), UNKNOWN);
    due("told(14)", x.told(14), 9);
    PartedVoices y = chain(10);
    due("take(9)", y.take(9), 9);
    due("take(0)", y.take(0), 8);
    due("at(0, 0)", y.at(0, 0), 1);
    due("at(7, 0)", y.at(7, 0), 8);
    due("note", y.note(0, 1, 60), 0);
  }

  private static void move() {
    promise = 11;
    PartedVoices x = four();
    x.follow(1, 3);
    due("move(4)", x.move(4, 0, 1, 0), UNKNOWN);
    due("move(4), wrong", x.move(4, 100, 1, 0), UNKNOWN);
    due("move(-1)", x.move(-1, 0, 1, 0), UNKNOWN);
    int[][] wrongs = {{-1, 1, 0}, {100, 1, 0}, {0, 0, 0}, {0, 33, 0}, {0, 1, -1}, {0, 1, 128}};
    for (int[] w : wrongs) due("move(0, " + w[0] + ", " + w[1] + ", " + w[2] + ")", x.move(0, w[0], w[1], w[2]), OUTSIDE);
    for (int far : FAR) {
      due("move(" + far + ")", x.move(far, 0, 1, 0), UNKNOWN);
      due("move(0, " + far + ")", x.move(0, far, 1, 0), OUTSIDE);
    }
    dueNext(x, NONE, 3, NONE, NONE);
    due("told(14)", x.told(14), 5);
    due("move to the end", x.move(0, 9, 2, 33), 3);
    dueNotes(x, 0, 4, 72, 4, 8, 59, 4, 8, 74, 9, 11, 33);
    dueNext(x, NONE, NONE, NONE, NONE);
    due("move to the head", x.move(3, 0, 1, 72), 0);
    dueNotes(x, 0, 1, 72, 0, 4, 72, 4, 8, 59, 4, 8, 74);
    // It comes anew: behind the one that is like it.
    due("move to a like one", x.move(0, 0, 4, 72), 1);
    x.follow(0, 2);
    due("move to where it is", x.move(0, 0, 4, 72), 1);
    dueNext(x, NONE, NONE, NONE, NONE);
    due("told(14)", x.told(14), 10);
    // Ten are no hindrance.
    PartedVoices y = chain(10);
    due("move of ten", y.move(0, 99, 32, 127), 9);
    due("told(0)", y.told(0), 10);
    due("at(9, 1)", y.at(9, 1), 131);
  }

  private static void share() {
    promise = 12;
    PartedVoices x = four();
    x.follow(1, 3);
    due("share(4)", x.share(4), UNKNOWN);
    due("share(-1)", x.share(-1), UNKNOWN);
    for (int far : FAR) due("share(" + far + ")", x.share(far), UNKNOWN);
    dueNext(x, NONE, 3, NONE, NONE);
    due("share(1)", x.share(1), 2);
    dueNotes(x, 0, 4, 60, 0, 4, 72, 0, 4, 72, 4, 8, 59, 4, 8, 74);
    dueNext(x, NONE, NONE, NONE, NONE, NONE);
    due("share(1) again", x.share(1), 3);
    due("told(14)", x.told(14), 7);
    due("told(3)", x.told(3), 4);
    PartedVoices y = chain(9);
    due("share(8)", y.share(8), 9);
    due("share(0), full", y.share(0), FULL);
    due("share(10), full", y.share(10), UNKNOWN);
    due("told(14)", y.told(14), 10);
  }

  private static void term() {
    promise = 13;
    PartedVoices x = chain(2);
    int[] starts = {1, 1, 10, 20, 16};
    int[] most = {9, 9, 99, 999, 99};
    for (int which = 0; which < 5; which++) {
      due("term(" + which + ", most)", x.term(which, most[which]), starts[which]);
      due("told(" + (7 + which) + ")", x.told(7 + which), most[which]);
      due("term(" + which + ", more)", x.term(which, most[which] + 1), OUTSIDE);
      due("term(" + which + ", -1)", x.term(which, -1), OUTSIDE);
      due("term(" + which + ", 0)", x.term(which, 0), most[which]);
      due("told(" + (7 + which) + ")", x.told(7 + which), 0);
    }
    due("told(14)", x.told(14), 12);
    due("term(-1, 0)", x.term(-1, 0), OUTSIDE);
    due("term(5, 0)", x.term(5, 0), OUTSIDE);
    for (int far : FAR) {
      due("term(" + far + ", 0)", x.term(far, 0), OUTSIDE);
      due("term(0, " + far + ")", x.term(0, far), OUTSIDE);
    }
    x.follow(0, 1);
    x.term(3, 1000);
    dueNext(x, 1, NONE);
    // Also if it is as it was.
    due("term(3, 0)", x.term(3, 0), 0);
    dueNext(x, NONE, NONE);
    due("told(14)", x.told(14), 14);
  }

  private static void follow() {
    promise = 14;
    PartedVoices x = four();
    due("follow(0, 3)", x.follow(0, 3), 24);
    due("follow(0, 2)", x.follow(0, 2), 1);
    dueNext(x, 2, NONE, NONE, NONE);
    due("at(3, 4)", x.at(3, 4), NONE);
    due("follow(1, 2)", x.follow(1, 2), 23);
    dueNext(x, NONE, 2, NONE, NONE);
    due("follow(1, 2) again", x.follow(1, 2), 23);
    dueNext(x, NONE, 2, NONE, NONE);
    due("told(14)", x.told(14), 8);
    due("follow(0, 1)", x.follow(0, 1), NOT);
    due("follow(2, 0)", x.follow(2, 0), NOT);
    due("follow(0, 0)", x.follow(0, 0), NOT);
    due("follow(4, 0)", x.follow(4, 0), UNKNOWN);
    due("follow(0, 4)", x.follow(0, 4), UNKNOWN);
    due("follow(0, -1)", x.follow(0, NONE), UNKNOWN);
    due("follow(-1, 0)", x.follow(NONE, 0), UNKNOWN);
    for (int far : FAR) due("follow(0, " + far + ")", x.follow(0, far), UNKNOWN);
    dueNext(x, NONE, 2, NONE, NONE);
    due("told(14)", x.told(14), 8);
    // A follower takes its own followers along.
    PartedVoices y = chain(4);
    y.follow(0, 1);
    y.follow(1, 2);
    y.follow(2, 3);
    due("follow(0, 2)", y.follow(0, 2), 1);
    dueNext(y, 2, NONE, 3, NONE);
    due("told(1)", y.told(1), 2);
    due("told(2)", y.told(2), 41);
  }

  private static void cut() {
    promise = 15;
    PartedVoices x = chain(3);
    x.part(1);
    due("cut(1)", x.cut(1), 2);
    dueNext(x, 1, NONE, NONE);
    due("cut(1) again", x.cut(1), NONE);
    due("told(14)", x.told(14), 6);
    due("told(1)", x.told(1), 2);
    due("cut(3)", x.cut(3), UNKNOWN);
    due("cut(-1)", x.cut(-1), UNKNOWN);
    for (int far : FAR) due("cut(" + far + ")", x.cut(far), UNKNOWN);
    due("told(14)", x.told(14), 6);
    due("cut(0)", x.cut(0), 1);
    dueNext(x, NONE, NONE, NONE);
  }

  private static void part() {
    promise = 16;
    PartedVoices x = four();
    due("part(2)", x.part(2), 43);
    dueNext(x, 2, 3, NONE, NONE);
    due("part(4)", x.part(4), 80);
    dueNext(x, NONE, NONE, NONE, NONE);
    due("part(3)", x.part(3), 61);
    dueNext(x, 2, NONE, NONE, NONE);
    due("part(NONE)", x.part(NONE), 43);
    dueNext(x, 2, 3, NONE, NONE);
    due("told(2)", x.told(2), 43);
    due("told(14)", x.told(14), 8);
    due("part(1)", x.part(1), NOT);
    due("part(0)", x.part(0), NOT);
    due("part(5)", x.part(5), NOT);
    due("part(10)", x.part(10), NOT);
    due("part(-2)", x.part(-2), OUTSIDE);
    due("part(11)", x.part(11), OUTSIDE);
    for (int far : FAR) due("part(" + far + ")", x.part(far), OUTSIDE);
    dueNext(x, 2, 3, NONE, NONE);
    due("told(14)", x.told(14), 8);
    due("undo(1)", x.undo(1), 4);
    dueNext(x, 2, NONE, NONE, NONE);
    // CHEAPEST is neither the fewest nor the most.
    x.term(3, 1);
    due("part(NONE), cheap entries", x.part(NONE), 4);
    dueNext(x, 2, NONE, NONE, NONE);
    // Without notes there is the one parting with no voices.
    PartedVoices y = new PartedVoices();
    due("part(NONE)", y.part(NONE), 0);
    due("part(0)", y.part(0), 0);
    due("part(1)", y.part(1), NOT);
    due("told(14)", y.told(14), 2);
  }

  private static void mend() {
    promise = 17;
    PartedVoices x = new PartedVoices();
    due("mend()", x.mend(), 0);
    due("told(14)", x.told(14), 1);
    // Three lines in the turned order: 0 and 1 change, then 0 and 2, then 1 and 2.
    for (int pitch = 50; pitch < 53; pitch++) x.note(0, 1, pitch);
    for (int pitch = 50; pitch < 53; pitch++) x.note(1, 1, pitch);
    for (int i = 0; i < 3; i++) x.follow(i, 5 - i);
    due("mend()", x.mend(), 3);
    dueNext(x, 3, 4, 5, NONE, NONE, NONE);
    due("told(6)", x.told(6), 0);
    due("mend() again", x.mend(), 0);
    due("told(14)", x.told(14), 12);
    due("undo(2)", x.undo(2), 6);
    dueNext(x, 5, 4, 3, NONE, NONE, NONE);
    // Lines that cross stay where one may not be followed by the other's next.
    PartedVoices y = new PartedVoices();
    y.note(0, 1, 50);
    y.note(0, 5, 60);
    y.note(1, 1, 70);
    y.note(5, 1, 40);
    y.follow(0, 2);
    y.follow(1, 3);
    due("told(6)", y.told(6), 1);
    due("mend()", y.mend(), 0);
    dueNext(y, 2, 3, NONE, NONE);
    due("told(6)", y.told(6), 1);
    // So they do where the rest would be too long.
    PartedVoices z = new PartedVoices();
    z.note(0, 1, 50);
    z.note(0, 5, 60);
    z.note(5, 1, 70);
    z.note(20, 1, 40);
    for (int longest = 18; longest <= 19; longest++) {
      z.term(4, longest);
      z.follow(0, 2);
      z.follow(1, 3);
      due("told(6)", z.told(6), 1);
      due("mend() within " + longest, z.mend(), longest - 18);
      due("told(6)", z.told(6), 19 - longest);
    }
    dueNext(z, 3, 2, NONE, NONE);
  }

  private static void clear() {
    promise = 18;
    PartedVoices x = four();
    x.term(3, 7);
    x.seed(5);
    x.write(0, 0);
    x.follow(0, 2);
    due("clear()", x.clear(), 4);
    dueTold(x, 0, 0, 0, 0, 0, 0, 0, 1, 1, 10, 7, 16, 1, NONE, 7, 5);
    due("at(0, 0)", x.at(0, 0), UNKNOWN);
    due("clear() of none", x.clear(), 0);
    due("told(14)", x.told(14), 8);
    due("undo(2)", x.undo(2), 4);
    dueNext(x, 2, NONE, NONE, NONE);
    x.clear();
    due("note", x.note(3, 3, 3), 0);
    dueNotes(x, 3, 6, 3);
    dueNext(x, NONE);
  }

  private static void drift() {
    promise = 19;
    PartedVoices x = new PartedVoices();
    // The seed 0 becomes 12345, 1406932606, 654583775: draws of 0 / 24, 21468 / 6, 9988 / 25, left over.
    due("drift(1)", x.drift(1), 1);
    dueNotes(x, 0, 1, 61);
    due("told(15)", x.told(15), 654583775);
    due("told(14)", x.told(14), 1);
    x.follow(0, 0);
    due("drift(9)", x.drift(9), 10);
    due("told(14)", x.told(14), 10);
    int seed = x.told(15);
    due("drift(10), full", x.drift(10), 10);
    due("told(14)", x.told(14), 10);
    due("told(15)", x.told(15), seed);
    due("undo(10)", x.undo(10), 0);
    due("told(15)", x.told(15), seed);
    // The same seed, the same notes, be they drawn at once or one by one.
    PartedVoices y = new PartedVoices();
    x.seed(2147483647);
    y.seed(2147483647);
    x.drift(10);
    for (int i = 0; i < 10; i++) y.drift(1);
    for (int i = 0; i < 30; i++) due("at(" + i / 3 + ", " + i % 3 + ")", x.at(i / 3, i % 3), y.at(i / 3, i % 3));
    due("told(15)", x.told(15), y.told(15));
    for (int v = 0; v < 60; v++) dueDrawn(v * 35000000);
    PartedVoices z = chain(8);
    due("drift(5) with room for two", z.drift(5), 10);
    due("told(14)", z.told(14), 10);
    due("drift(0)", z.drift(0), OUTSIDE);
    due("drift(11)", z.drift(11), OUTSIDE);
    for (int far : FAR) due("drift(" + far + ")", z.drift(far), OUTSIDE);
    PartedVoices w = chain(2);
    w.follow(0, 1);
    w.drift(1);
    dueNext(w, NONE, NONE, NONE);
  }

  private static long drawn(long seed) {
    return (seed * 1103515245L + 12345L) % 2147483648L;
  }

  private static void dueDrawn(int v) {
    long on = drawn(v);
    long length = drawn(on);
    long pitch = drawn(length);
    PartedVoices x = new PartedVoices();
    x.seed(v);
    x.drift(1);
    int begins = (int) (on / 65536 % 24);
    dueNotes(x, begins, begins + (int) (length / 65536 % 6) + 1, (int) (pitch / 65536 % 25) + 48);
    due("told(15)", x.told(15), (int) pitch);
  }

  private static void undo() {
    promise = 20;
    PartedVoices x = four();
    x.part(2);
    x.term(3, 9);
    due("undo(1)", x.undo(1), 4);
    dueNext(x, 2, 3, NONE, NONE);
    due("told(10)", x.told(10), 20);
    due("told(14)", x.told(14), 5);
    x.take(0);
    x.move(0, 9, 9, 9);
    x.share(0);
    x.cut(0);
    x.mend();
    x.clear();
    due("told(14)", x.told(14), 11);
    due("undo(6)", x.undo(6), 4);
    dueNotes(x, 0, 4, 60, 0, 4, 72, 4, 8, 59, 4, 8, 74);
    dueNext(x, 2, 3, NONE, NONE);
    due("undo(6), too many", x.undo(6), NOT);
    due("undo(0)", x.undo(0), OUTSIDE);
    due("undo(17)", x.undo(17), OUTSIDE);
    for (int far : FAR) due("undo(" + far + ")", x.undo(far), OUTSIDE);
    due("told(14)", x.told(14), 5);
    due("undo(5)", x.undo(5), 0);
    due("undo(1)", x.undo(1), NOT);
    // Sixteen are kept, the earliest go.
    PartedVoices y = new PartedVoices();
    for (int v = 1; v <= 20; v++) y.term(3, v);
    due("told(14)", y.told(14), 16);
    due("undo(3)", y.undo(3), 0);
    due("told(10)", y.told(10), 17);
    due("told(14)", y.told(14), 13);
    for (int v = 101; v <= 105; v++) y.term(3, v);
    due("told(14)", y.told(14), 16);
    due("undo(16)", y.undo(16), 0);
    due("told(10)", y.told(10), 6);
    due("told(14)", y.told(14), 0);
    // The seed and the book stay, and neither they nor refusals are deeds.
    PartedVoices z = new PartedVoices();
    z.note(0, 1, 1);
    z.seed(4);
    z.write(1, 20);
    z.note(0, 0, 0);
    z.tear();
    z.write(2, 2);
    due("told(14)", z.told(14), 1);
    due("undo(1)", z.undo(1), 0);
    due("told(15)", z.told(15), 4);
    due("told(12)", z.told(12), 1);
  }

  private static void write() {
    promise = 21;
    PartedVoices x = four();
    due("write(2, 43)", x.write(2, 43), 1);
    due("write(1, NONE)", x.write(1, NONE), 2);
    due("write(10, NONE)", x.write(10, NONE), 3);
    due("told(13)", x.told(13), NONE);
    due("write(0, 0)", x.write(0, 0), 4);
    due("write(0, min)", x.write(0, Integer.MIN_VALUE), 5);
    due("told(13)", x.told(13), 3);
    due("write(-1, 0)", x.write(-1, 0), OUTSIDE);
    due("write(11, 0)", x.write(11, 0), OUTSIDE);
    for (int far : FAR) due("write(" + far + ", 0)", x.write(far, 0), OUTSIDE);
    due("told(12)", x.told(12), 5);
    x.clear();
    // Without notes LEAST of 2 is NONE, that of 0 is 0.
    due("told(13)", x.told(13), 0);
    for (int i = 6; i <= 20; i++) due("write", x.write(0, Integer.MAX_VALUE), i);
    due("write, full", x.write(0, 0), FULL);
    due("write, full and wrong", x.write(11, 0), OUTSIDE);
    due("told(12)", x.told(12), 20);
    due("told(14)", x.told(14), 5);
    PartedVoices y = new PartedVoices();
    for (int i = 0; i < 19; i++) y.write(0, 0);
    y.write(0, 1);
    due("told(13)", y.told(13), 19);
  }

  private static void tear() {
    promise = 22;
    PartedVoices x = new PartedVoices();
    due("tear()", x.tear(), 0);
    for (int i = 0; i < 20; i++) x.write(0, 5);
    due("told(13)", x.told(13), 0);
    due("tear()", x.tear(), 20);
    due("told(12)", x.told(12), 0);
    due("told(13)", x.told(13), NONE);
    due("told(14)", x.told(14), 0);
    due("write", x.write(0, 0), 1);
    due("told(13)", x.told(13), NONE);
    due("tear()", x.tear(), 1);
  }

  private static void seed() {
    promise = 23;
    PartedVoices x = new PartedVoices();
    due("seed(5)", x.seed(5), 0);
    due("seed(max)", x.seed(2147483647), 5);
    due("told(15)", x.told(15), 2147483647);
    due("seed(-1)", x.seed(-1), OUTSIDE);
    due("seed(min)", x.seed(Integer.MIN_VALUE), OUTSIDE);
    due("seed(0)", x.seed(0), 2147483647);
    due("told(15)", x.told(15), 0);
    due("told(14)", x.told(14), 0);
  }

  private static void keep() {
    promise = 24;
    PartedVoices x = four();
    x.part(2);
    due("keep(2)", x.keep(2), UNKNOWN);
    due("keep(-1)", x.keep(-1), UNKNOWN);
    for (int far : FAR) due("keep(" + far + ")", x.keep(far), UNKNOWN);
    due("told(14)", x.told(14), 5);
    due("keep(1)", x.keep(1), 1);
    due("told(14)", x.told(14), 0);
    due("undo(1)", x.undo(1), NOT);
    dueNext(x, 2, 3, NONE, NONE);
    x.cut(0);
    due("told(14)", x.told(14), 1);
    due("keep(1) again", x.keep(1), 1);
    x.clear();
    due("goBack(1)", x.goBack(1), 1);
    dueNext(x, NONE, 3, NONE, NONE);
    due("goBack(0)", x.goBack(0), NOT);
  }

  private static void goBack() {
    promise = 25;
    PartedVoices x = four();
    x.part(2);
    x.term(0, 2);
    x.part(2);
    x.seed(8);
    x.write(2, 46);
    x.keep(0);
    x.clear();
    x.term(0, 0);
    x.seed(9);
    x.note(7, 7, 7);
    x.keep(1);
    x.write(1, 20);
    x.share(0);
    due("goBack(2)", x.goBack(2), UNKNOWN);
    due("goBack(-1)", x.goBack(-1), UNKNOWN);
    for (int far : FAR) due("goBack(" + far + ")", x.goBack(far), UNKNOWN);
    due("told(14)", x.told(14), 1);
    due("goBack(0)", x.goBack(0), 1);
    dueNotes(x, 0, 4, 60, 0, 4, 72, 4, 8, 59, 4, 8, 74);
    dueNext(x, 2, 3, NONE, NONE);
    // The book is none of the image.
    dueTold(x, 4, 2, 46, 2, 2, 46, 0, 2, 1, 10, 20, 16, 2, 1, 0, 8);
    due("undo(1)", x.undo(1), NOT);
    due("goBack(1)", x.goBack(1), 1);
    dueNotes(x, 7, 14, 7);
    dueTold(x, 1, 1, 20, 1, 1, 20, 0, 0, 1, 10, 20, 16, 2, 0, 0, 9);
    // What comes later does not change the image.
    x.note(1, 1, 1);
    x.term(4, 0);
    due("goBack(1)", x.goBack(1), 1);
    dueNotes(x, 7, 14, 7);
    due("told(11)", x.told(11), 16);
    due("goBack(0)", x.goBack(0), 1);
    dueNext(x, 2, 3, NONE, NONE);
  }

  public static void main(String[] args) {
    newObject();
    told();
    at();
    cost();
    least();
    first();
    voice();
    member();
    note();
    take();
    move();
    share();
    term();
    follow();
    cut();
    part();
    mend();
    clear();
    drift();
    undo();
    write();
    tear();
    seed();
    keep();
    goBack();
    System.out.println(wrong == 0 ? "all promises hold" : wrong + " answers are not as due");
    if (wrong != 0) System.exit(1);
  }
}
