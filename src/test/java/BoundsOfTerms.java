/** The boundaries that the document names ahead of its promises: NOTES, A PARTING, ASKED. */
public final class BoundsOfTerms extends Checks {
  private static final String[] TERMS = {"STEP", "GAP", "LEAP", "ENTRY", "LONGEST"};
  private static final int[] AT_FIRST = {1, 1, 10, 20, 16};
  private static final int[] GREATEST = {9, 9, 99, 999, 99};

  private static void numbers() {
    String calls = "An object is used for at most 512 calls after it has been made";
    test(0, calls, "the 512th call is still right, the kept deeds having gone round 30 times", () -> {
      PartedVoices x = empty();
      int was = 20;
      for (int v = 1; v <= 496; v++) {
        due("term(3, " + v + ")", x.term(3, v), was);
        was = v;
      }
      for (int v = 495; v >= 481; v--) {
        x.undo(1);
      }
      due("the 512th call: told(10)", x.told(10), 481);
    });
    test(0, calls, "512 partings asked of notes that change each time", () -> {
      PartedVoices x = empty();
      for (int i = 0; i < 170; i++) {
        due("note", x.note(0, 1, 60), 0);
        due("told(5)", x.told(5), 20);
        due("clear()", x.clear(), 1);
      }
      due("told(5)", x.told(5), 0);
      due("the 512th call: told(14)", x.told(14), 16);
    });
    String from = "What has a number has it from 0 on.";
    test(0, from, "a note", () -> due("note", empty().note(9, 9, 9), 0));
    test(0, from, "a voice and its first note", () -> due("member(0, 0)", chain(2).member(0, 0), 0));
    test(0, from, "an entry of the book", () -> {
      PartedVoices x = empty();
      x.write(0, 7);
      due("told(13)", x.told(13), 0);
    });
    test(0, from, "an image", () -> due("keep(0)", empty().keep(0), 1));
    test(0, "NONE is -1.", "the constant", () -> due("NONE", PartedVoices.NONE, -1));
    test(0, "They are far below all that is counted: -1000000001 and on.", "the constants in their order", () -> {
      due("UNKNOWN", PartedVoices.UNKNOWN, -1000000001);
      due("OUTSIDE", PartedVoices.OUTSIDE, -1000000002);
      due("NOT", PartedVoices.NOT, -1000000003);
      due("FULL", PartedVoices.FULL, -1000000004);
    });
  }

  private static void notes() {
    String ten = "NOTES (10 at most)";
    test(0, ten, "the tenth stands, and there is no eleventh", () -> {
      PartedVoices x = chain(10);
      due("told(0)", x.told(0), 10);
      due("at(9, 0)", x.at(9, 0), 9);
      due("at(10, 0)", x.at(10, 0), UNKNOWN);
    });
    test(0, "ON (0 .. 99)", "0 is taken", () -> dueNotes(withNotes(0, 3, 60), 0, 3, 60));
    test(0, "ON (0 .. 99)", "99 is taken", () -> dueNotes(withNotes(99, 3, 60), 99, 102, 60));
    test(0, "ON (0 .. 99)", "-1 is too small", () -> due("note", empty().note(-1, 3, 60), OUTSIDE));
    test(0, "ON (0 .. 99)", "100 is too large", () -> due("note", empty().note(100, 3, 60), OUTSIDE));
    test(0, "LENGTH (1 .. 32)", "1 is taken", () -> dueNotes(withNotes(7, 1, 60), 7, 8, 60));
    test(0, "LENGTH (1 .. 32)", "32 is taken", () -> dueNotes(withNotes(7, 32, 60), 7, 39, 60));
    test(0, "LENGTH (1 .. 32)", "0 is too small", () -> due("note", empty().note(7, 0, 60), OUTSIDE));
    test(0, "LENGTH (1 .. 32)", "33 is too large", () -> due("note", empty().note(7, 33, 60), OUTSIDE));
    test(0, "PITCH (0 .. 127)", "0 is taken", () -> dueNotes(withNotes(7, 3, 0), 7, 10, 0));
    test(0, "PITCH (0 .. 127)", "127 is taken", () -> dueNotes(withNotes(7, 3, 127), 7, 10, 127));
    test(0, "PITCH (0 .. 127)", "-1 is too small", () -> due("note", empty().note(7, 3, -1), OUTSIDE));
    test(0, "PITCH (0 .. 127)", "128 is too large", () -> due("note", empty().note(7, 3, 128), OUTSIDE));
    test(0, "OFF is ON and LENGTH", "the least and the greatest", () ->
        dueNotes(withNotes(0, 1, 0, 99, 32, 127), 0, 1, 0, 99, 131, 127));
    test(0, "OFF is ON and LENGTH", "the least and the greatest, come the other way round", () ->
        dueNotes(withNotes(99, 32, 127, 0, 1, 0), 0, 1, 0, 99, 131, 127));
  }

  private static void order() {
    String order = "They are kept in the order of ON, then PITCH, then LENGTH, then as they came, and numbered so.";
    test(0, order, "ON goes ahead of the greatest PITCH and LENGTH", () -> {
      dueNotes(withNotes(6, 1, 0, 5, 32, 127), 5, 37, 127, 6, 7, 0);
      dueNotes(withNotes(5, 32, 127, 6, 1, 0), 5, 37, 127, 6, 7, 0);
    });
    test(0, order, "PITCH goes ahead of the greatest LENGTH", () -> {
      dueNotes(withNotes(5, 1, 61, 5, 32, 60), 5, 37, 60, 5, 6, 61);
      dueNotes(withNotes(5, 32, 60, 5, 1, 61), 5, 37, 60, 5, 6, 61);
    });
    test(0, order, "LENGTH decides of like ON and PITCH", () -> {
      dueNotes(withNotes(5, 32, 60, 5, 31, 60), 5, 36, 60, 5, 37, 60);
      dueNotes(withNotes(5, 31, 60, 5, 32, 60), 5, 36, 60, 5, 37, 60);
    });
    test(0, order, "of like notes the later one is behind", () -> {
      PartedVoices x = withNotes(5, 2, 60, 5, 3, 60);
      due("note, like note 0", x.note(5, 2, 60), 1);
      due("note, like both", x.note(5, 2, 60), 2);
      due("note, like the last", x.note(5, 3, 60), 4);
    });
    test(0, order, "ahead of all, behind all", () -> {
      PartedVoices x = chain(8);
      due("note, ahead of all", x.note(0, 1, 59), 0);
      due("note, behind all", x.note(7, 1, 61), 9);
    });
  }

  private static void terms() {
    String[] sentences = {
      "STEP (0 .. 9; 1 at first)", "GAP (0 .. 9; 1)", "LEAP (0 .. 99; 10)", "ENTRY (0 .. 999; 20)", "LONGEST (0 .. 99; 16)"};
    for (int i = 0; i < TERMS.length; i++) {
      int which = i;
      int most = GREATEST[which];
      test(0, sentences[which], "at first", () -> due("told", empty().told(7 + which), AT_FIRST[which]));
      test(0, sentences[which], "0 is taken", () -> dueTaken(which, 0));
      test(0, sentences[which], most + " is taken", () -> dueTaken(which, most));
      test(0, sentences[which], "-1 is too small", () -> dueNotTaken(which, -1));
      test(0, sentences[which], (most + 1) + " is too large", () -> dueNotTaken(which, most + 1));
    }
  }

  private static void dueTaken(int which, int v) {
    PartedVoices x = empty();
    due("term", x.term(which, v), AT_FIRST[which]);
    for (int other = 0; other < 5; other++) due(TERMS[other], x.told(7 + other), other == which ? v : AT_FIRST[other]);
  }

  private static void dueNotTaken(int which, int v) {
    PartedVoices x = empty();
    due("term", x.term(which, v), OUTSIDE);
    for (int other = 0; other < 5; other++) due(TERMS[other], x.told(7 + other), AT_FIRST[other]);
  }

  /** Note 0 sounds from 10 to 14; the other begins so much later than it ends. */
  private static PartedVoices resting(int rest) {
    return withNotes(10, 4, 60, 14 + rest, 4, 60);
  }

  private static void mayFollow() {
    String may = "NOTE b MAY FOLLOW a, if ON of b is OFF of a or more, by LONGEST at most.";
    test(0, may, "ON of b is less than OFF of a by one", () -> due("cost", resting(-1).cost(0, 1), NONE));
    test(0, may, "ON of b is OFF of a", () -> due("cost", resting(0).cost(0, 1), 0));
    test(0, may, "more by LONGEST", () -> due("cost", resting(16).cost(0, 1), 16));
    test(0, may, "more by LONGEST and one", () -> due("cost", resting(17).cost(0, 1), NONE));
    test(0, may, "LONGEST 0: no rest at all", () -> {
      PartedVoices x = withNotes(10, 4, 60, 14, 1, 60, 15, 1, 60);
      x.term(4, 0);
      due("cost(0, 1)", x.cost(0, 1), 0);
      due("cost(0, 2)", x.cost(0, 2), NONE);
    });
    test(0, may, "LONGEST 99: the longest rest that there can be", () -> {
      PartedVoices x = withNotes(0, 1, 60, 99, 1, 60);
      x.term(4, 99);
      due("cost(0, 1)", x.cost(0, 1), 98);
    });
    test(0, may, "not the earlier the later, nor a note itself, nor one that begins with it", () -> {
      PartedVoices x = four();
      due("cost(2, 0)", x.cost(2, 0), NONE);
      due("cost(0, 0)", x.cost(0, 0), NONE);
      due("cost(0, 1)", x.cost(0, 1), NONE);
      due("cost(1, 0)", x.cost(1, 0), NONE);
    });
  }

  private static void toFollow() {
    String costs = "TO FOLLOW costs STEP for each by which their PITCHES are apart, GAP for each by which ON of b is more than OFF of a,"
        + " and LEAP, if their PITCHES are more than 12 apart.";
    test(0, costs, "12 up: no LEAP", () -> due("cost", withNotes(0, 1, 60, 1, 1, 72).cost(0, 1), 12));
    test(0, costs, "13 up: LEAP", () -> due("cost", withNotes(0, 1, 60, 1, 1, 73).cost(0, 1), 23));
    test(0, costs, "12 down: no LEAP", () -> due("cost", withNotes(0, 1, 60, 1, 1, 48).cost(0, 1), 12));
    test(0, costs, "13 down: LEAP", () -> due("cost", withNotes(0, 1, 60, 1, 1, 47).cost(0, 1), 23));
    test(0, costs, "like PITCH and no rest: nothing", () -> due("cost", withNotes(0, 1, 60, 1, 1, 60).cost(0, 1), 0));
    test(0, costs, "the dearest", () -> {
      PartedVoices x = withNotes(0, 1, 127, 99, 1, 0);
      for (int which = 0; which < 5; which++) x.term(which, GREATEST[which]);
      due("cost", x.cost(0, 1), 127 * 9 + 98 * 9 + 99);
    });
    test(0, costs, "each TERM by its own number", () -> {
      PartedVoices x = withNotes(0, 1, 60, 8, 1, 73);
      x.term(0, 2);
      x.term(1, 5);
      x.term(2, 90);
      due("cost", x.cost(0, 1), 13 * 2 + 7 * 5 + 90);
    });
    test(0, costs, "STEP 0, GAP 0: LEAP alone; LEAP 0, too: nothing", () -> {
      PartedVoices x = withNotes(0, 1, 60, 5, 1, 80);
      x.term(0, 0);
      x.term(1, 0);
      due("cost", x.cost(0, 1), 10);
      x.term(2, 0);
      due("cost", x.cost(0, 1), 0);
    });
  }

  private static void next() {
    test(0, "no NOTE is NEXT of two", "the later one has it", () -> {
      PartedVoices x = four();
      x.follow(0, 2);
      x.follow(1, 2);
      dueNext(x, NONE, 2, NONE, NONE);
      due("at(2, 4)", x.at(2, 4), 1);
    });
    String loose = "(Whenever a NOTE comes, goes, is moved, or a TERM is told, also if it is as it was, NEXT of all are NONE.)";
    test(0, loose, "a note comes", () -> dueLoose(3, x -> x.note(50, 1, 60)));
    test(0, loose, "a like one comes", () -> dueLoose(3, x -> x.share(2)));
    test(0, loose, "one comes by draws", () -> dueLoose(3, x -> x.drift(1)));
    test(0, loose, "one goes that had no NEXT and was none", () -> {
      PartedVoices x = chain(3);
      x.follow(0, 1);
      x.take(2);
      dueNext(x, NONE, NONE);
    });
    test(0, loose, "one is moved", () -> dueLoose(3, x -> x.move(2, 50, 1, 60)));
    test(0, loose, "one is moved to where it is", () -> dueLoose(3, x -> x.move(2, 2, 1, 60)));
    for (int i = 0; i < TERMS.length; i++) {
      int which = i;
      test(0, loose, TERMS[which] + " is told", () -> dueLoose(3, x -> x.term(which, AT_FIRST[which] - 1)));
      test(0, loose, TERMS[which] + " is told as it was", () -> dueLoose(3, x -> x.term(which, AT_FIRST[which])));
    }
    test(0, loose, "none comes where all is full", () -> {
      PartedVoices x = linked(10);
      x.drift(10);
      dueNext(x, 1, 2, 3, 4, 5, 6, 7, 8, 9, NONE);
    });
    test(0, loose, "a place that had a NEXT is used anew", () -> {
      PartedVoices x = linked(3);
      x.clear();
      for (int i = 0; i < 4; i++) x.note(i, 1, 60);
      dueNext(x, NONE, NONE, NONE, NONE);
    });
  }

  private interface Deed {
    int on(PartedVoices x);
  }

  private static void dueLoose(int notes, Deed deed) {
    PartedVoices x = linked(notes);
    deed.on(x);
    for (int next : nexts(x)) due("NEXT", next, NONE);
    due("VOICES", x.told(1), x.told(0));
  }

  private static void voices() {
    String rows = "VOICES: rows of NOTES, each the NEXT of the one ahead; numbered by their first NOTES.";
    test(0, rows, "no notes, no voices", () -> due("told(1)", empty().told(1), 0));
    test(0, rows, "each note alone", () -> {
      PartedVoices x = chain(10);
      due("told(1)", x.told(1), 10);
      for (int i = 0; i < 10; i++) due("voice(" + i + ", 1)", x.voice(i, 1), i);
    });
    test(0, rows, "all ten in one", () -> {
      PartedVoices x = linked(10);
      due("told(1)", x.told(1), 1);
      for (int i = 0; i < 10; i++) due("member(0, " + i + ")", x.member(0, i), i);
    });
    test(0, rows, "the last note may be of the first voice, and the second voice begin ahead of it", () -> {
      PartedVoices x = chain(4);
      x.follow(0, 3);
      x.follow(1, 2);
      due("at(3, 5)", x.at(3, 5), 0);
      due("at(2, 5)", x.at(2, 5), 1);
    });
    String cost = "COST: ENTRY for each VOICE, and what it costs TO FOLLOW wherever there is a NEXT.";
    test(0, cost, "no notes", () -> due("told(2)", empty().told(2), 0));
    test(0, cost, "no NEXT at all, the dearest ENTRY", () -> {
      PartedVoices x = chain(10);
      x.term(3, 999);
      due("told(2)", x.told(2), 9990);
    });
    test(0, cost, "ENTRY 0", () -> {
      PartedVoices x = four();
      x.term(3, 0);
      x.follow(0, 2);
      due("told(2)", x.told(2), 1);
    });
    test(0, cost, "the dearest of all", () -> {
      PartedVoices x = withNotes(0, 1, 0, 1, 1, 127, 2, 1, 0, 3, 1, 127, 4, 1, 0, 5, 1, 127, 6, 1, 0, 7, 1, 127, 8, 1, 0, 99, 1, 127);
      for (int which = 0; which < 5; which++) x.term(which, GREATEST[which]);
      for (int i = 0; i < 9; i++) x.follow(i, i + 1);
      due("told(2)", x.told(2), 999 + 9 * (127 * 9 + 99) + 90 * 9);
      due("least(1)", x.least(1), 999 + 9 * (127 * 9 + 99) + 90 * 9);
    });
  }

  private static void partings() {
    String fewest = "FEWEST: how few VOICES a PARTING can have.";
    test(0, fewest, "all at once: as many as notes", () -> due("told(3)", chord(10).told(3), 10));
    test(0, fewest, "one behind the other: one", () -> due("told(3)", chain(10).told(3), 1));
    test(0, fewest, "they touch, or one sounds too long by one", () -> {
      due("told(3), touching", resting(0).told(3), 1);
      due("told(3), too long", resting(-1).told(3), 2);
    });
    test(0, fewest, "the rest is as long as may be, or longer by one", () -> {
      due("told(3), as may be", resting(16).told(3), 1);
      due("told(3), longer", resting(17).told(3), 2);
    });
    String least = "LEAST of k VOICES: the least COST of a PARTING with just k; NONE: there is none.";
    test(0, least, "0 voices with a note: none", () -> due("least(0)", chain(1).least(0), NONE));
    test(0, least, "0 voices without notes: there is one that costs nothing", () -> due("least(0)", empty().least(0), 0));
    test(0, least, "1 voice without notes: none", () -> due("least(1)", empty().least(1), NONE));
    test(0, least, "more voices than notes: none", () -> dueLeast(chain(9), NONE, 20, 40, 60, 80, 100, 120, 140, 160, 180));
    test(0, least, "fewer than FEWEST: none", () -> dueLeast(four(), NONE, NONE, 43, 61, 80));
    test(0, least, "just k, not k at most", () -> {
      PartedVoices x = withNotes(0, 1, 60, 1, 1, 60);
      due("least(2)", x.least(2), 40);
      due("least(1)", x.least(1), 20);
    });
    String cheapest = "CHEAPEST: the k of the least LEAST, of like ones the least k.";
    test(0, cheapest, "two voices cost just what one does", () -> {
      due("told(4), one is cheaper by one", cheapestByLeap(9), 1);
      due("told(4), both cost the same", cheapestByLeap(10), 1);
      due("told(4), two are cheaper by one", cheapestByLeap(11), 2);
    });
    test(0, cheapest, "all alike", () -> {
      PartedVoices x = chain(10);
      x.term(3, 0);
      x.term(1, 0);
      due("told(4)", x.told(4), 1);
    });
    test(0, cheapest, "the most that there can be is the cheapest", () -> {
      PartedVoices x = new PartedVoices();
      for (int i = 0; i < 10; i++) x.note(i, 1, 60 + i);
      x.term(3, 0);
      due("told(4)", x.told(4), 10);
      due("told(3)", x.told(3), 1);
    });
  }

  /** CHEAPEST, where a line of 13 and so much LEAP stands against an ENTRY of 23. */
  private static int cheapestByLeap(int leap) {
    PartedVoices x = withNotes(0, 1, 60, 1, 1, 73);
    x.term(3, 23);
    x.term(2, leap);
    return x.told(4);
  }

  private static void firstOnes() {
    String first = "that whose NEXT of NOTE 0 is the least (NONE is the least), then of NOTE 1, and so on.";
    test(0, first, "NONE goes ahead of every note", () -> {
      PartedVoices x = chain(3);
      x.term(1, 0);
      dueFirst(x, 2, NONE, 2, NONE);
    });
    test(0, first, "of like followers the least", () -> dueFirst(withNotes(0, 1, 60, 1, 1, 60, 1, 1, 60), 2, 1, NONE, NONE));
    test(0, first, "then of note 1", () -> dueFirst(withNotes(0, 1, 60, 0, 1, 60, 1, 1, 60, 1, 1, 60), 2, 2, 3, NONE, NONE));
    test(0, first, "note 0 decides, be note 1 as it may", () -> {
      // Pitches on a line: 0 to 2 and 1 to 3 cost what 0 to 3 and 1 to 2 cost.
      PartedVoices x = withNotes(0, 1, 60, 0, 1, 61, 1, 1, 62, 1, 1, 63);
      dueFirst(x, 2, 2, 3, NONE, NONE);
    });
    test(0, first, "the cost goes ahead of the order", () ->
        dueFirst(withNotes(0, 1, 60, 0, 1, 70, 1, 1, 59, 1, 1, 60), 3, 3, NONE, NONE, NONE));
    test(0, first, "the last two notes alone decide", () -> {
      PartedVoices x = chain(10);
      x.term(1, 0);
      dueFirst(x, 9, NONE, NONE, NONE, NONE, NONE, NONE, NONE, NONE, 9, NONE);
    });
  }

  private static void prices() {
    String price = "PRICE of a NOTE: LEAST of CHEAPEST, less what that would be, were the NOTE not there.";
    test(0, price, "the only note: its ENTRY", () -> due("at(0, 6)", chain(1).at(0, 6), 20));
    test(0, price, "the only note, ENTRY 0", () -> {
      PartedVoices x = chain(1);
      x.term(3, 0);
      due("at(0, 6)", x.at(0, 6), 0);
    });
    test(0, price, "the only note, ENTRY 999", () -> {
      PartedVoices x = chain(1);
      x.term(3, 999);
      due("at(0, 6)", x.at(0, 6), 999);
    });
    test(0, price, "below nothing: the rest is longer without it", () -> due("at(1, 6)", chain(3).at(1, 6), -1));
    test(0, price, "below nothing by a whole ENTRY: without it none may follow", () -> {
      PartedVoices x = chain(3);
      x.term(4, 0);
      x.term(3, 999);
      due("at(1, 6)", x.at(1, 6), -999);
    });
    test(0, price, "the first and the last of ten", () -> {
      PartedVoices x = chain(10);
      due("at(0, 6)", x.at(0, 6), 0);
      due("at(9, 6)", x.at(9, 6), 0);
    });
    test(0, price, "CHEAPEST is another k without it", () -> {
      // One voice costs 20 + 7 + 7; without the middle one 20 + 14 + 1 + 10, but two cost 40.
      PartedVoices x = withNotes(0, 1, 60, 1, 1, 67, 2, 1, 74);
      due("told(5)", x.told(5), 34);
      due("at(1, 6)", x.at(1, 6), 34 - 40);
    });
    test(0, price, "what stands does not matter", () -> {
      PartedVoices x = chain(3);
      x.follow(0, 2);
      due("at(1, 6)", x.at(1, 6), -1);
      due("told(5)", x.told(5), 20);
    });
  }

  /** Pairs of two lines that cross, a to b and c to d, told by ON and PITCH of each of the four; all of LENGTH 1. */
  private static int crossing(int... n) {
    PartedVoices x = withNotes(n[0], 1, n[1], n[2], 1, n[3], n[4], 1, n[5], n[6], 1, n[7]);
    link(x, n[0], n[1], n[2], n[3]);
    link(x, n[4], n[5], n[6], n[7]);
    due("told(1)", x.told(1), 2);
    return x.told(6);
  }

  private static void link(PartedVoices x, int on, int pitch, int nextOn, int nextPitch) {
    x.follow(find(x, on, pitch), find(x, nextOn, nextPitch));
  }

  private static int find(PartedVoices x, int on, int pitch) {
    for (int i = 0; i < 10; i++) {
      if (x.at(i, 0) == on && x.at(i, 2) == pitch) return i;
    }
    return NONE;
  }

  private static void crossings() {
    String cross = "Two LINES CROSS, a to b and c to d: ON of a is less than ON of d, ON of c less than ON of b,";
    String round = "and PITCH of a is less than that of c, but PITCH of b more than that of d, or the other way round.";
    test(0, cross, "at once and turned", () -> due("told(6)", crossing(0, 60, 5, 70, 0, 65, 5, 61), 1));
    test(0, cross, "c begins as b does", () -> due("told(6)", crossing(0, 60, 5, 70, 5, 65, 9, 61), 0));
    test(0, cross, "c begins ahead of b by one", () -> due("told(6)", crossing(0, 60, 5, 70, 4, 65, 9, 61), 1));
    test(0, cross, "a begins as d does", () -> due("told(6)", crossing(5, 65, 9, 61, 0, 60, 5, 70), 0));
    test(0, cross, "a begins ahead of d by one", () -> due("told(6)", crossing(4, 65, 9, 61, 0, 60, 5, 70), 1));
    test(0, cross, "lines of one voice, one behind the other", () -> {
      PartedVoices x = withNotes(0, 1, 60, 1, 1, 70, 2, 1, 50);
      x.follow(0, 1);
      x.follow(1, 2);
      due("told(6)", x.told(6), 0);
    });
    test(0, cross, "one has no NEXT: there is no line", () -> {
      PartedVoices x = four();
      x.follow(0, 3);
      due("told(6)", x.told(6), 0);
    });
    test(0, cross, "no notes", () -> due("told(6)", empty().told(6), 0));
    test(0, round, "a below c by one, b above d by one", () -> due("told(6)", crossing(0, 60, 5, 61, 1, 61, 6, 60), 1));
    test(0, round, "a above c by one, b below d by one", () -> due("told(6)", crossing(0, 61, 5, 60, 1, 60, 6, 61), 1));
    test(0, round, "a is as high as c, b above", () -> due("told(6)", crossing(0, 60, 5, 61, 1, 60, 6, 60), 0));
    test(0, round, "a is as high as c, b below", () -> due("told(6)", crossing(0, 60, 5, 60, 1, 60, 6, 61), 0));
    test(0, round, "a below c, b is as high as d", () -> due("told(6)", crossing(0, 60, 5, 60, 1, 61, 6, 60), 0));
    test(0, round, "a above c, b is as high as d", () -> due("told(6)", crossing(0, 61, 5, 60, 1, 60, 6, 60), 0));
    test(0, round, "a below c, b below d", () -> due("told(6)", crossing(0, 60, 5, 60, 1, 61, 6, 61), 0));
    test(0, round, "a above c, b above d", () -> due("told(6)", crossing(0, 61, 5, 61, 1, 60, 6, 60), 0));
    test(0, round, "all of five lines with all", () -> due("told(6)", turned(5).told(6), 10));
  }

  /** So many notes at once, and as many behind them; the lowest goes to the highest, and so on. */
  private static PartedVoices turned(int lines) {
    PartedVoices x = new PartedVoices();
    for (int i = 0; i < lines; i++) x.note(0, 1, 60 + i);
    for (int i = 0; i < lines; i++) x.note(1, 1, 60 + i);
    for (int i = 0; i < lines; i++) x.follow(i, 2 * lines - 1 - i);
    return x;
  }

  private static void mended() {
    String first = "MENDED: the first two NOTES a, c (least a, then least c more than a), whose LINES CROSS,";
    String may = "and of which a MAY be followed by the NEXT of c, and c by the NEXT of a, change their NEXT;";
    String again = "again, till there are none such, 50 times at most.";
    test(0, first, "none cross", () -> due("mend()", linked(10).mend(), 0));
    test(0, first, "no notes", () -> due("mend()", empty().mend(), 0));
    test(0, first, "the least a", () -> {
      PartedVoices x = withNotes(0, 1, 54, 0, 1, 56, 1, 1, 54, 3, 3, 56, 5, 2, 52);
      x.follow(0, 2);
      x.follow(1, 4);
      x.follow(2, 3);
      due("told(6)", x.told(6), 2);
      due("mend()", x.mend(), 1);
      dueNext(x, 4, 2, 3, NONE, NONE);
    });
    test(0, first, "of one a the least c", () -> {
      PartedVoices x = withNotes(0, 1, 56, 2, 1, 52, 3, 2, 52, 5, 3, 52, 6, 1, 50);
      x.follow(0, 4);
      x.follow(1, 2);
      x.follow(2, 3);
      due("told(6)", x.told(6), 2);
      due("mend()", x.mend(), 1);
      dueNext(x, 2, 4, 3, NONE, NONE);
    });
    test(0, first, "the least a goes ahead of the least c", () -> {
      PartedVoices x = withNotes(1, 2, 54, 2, 2, 56, 3, 1, 54, 4, 1, 52, 4, 3, 56, 5, 2, 58, 6, 2, 52);
      x.follow(0, 6);
      x.follow(1, 3);
      x.follow(2, 4);
      x.follow(3, 5);
      due("mend()", x.mend(), 2);
      dueNext(x, 3, 5, 4, 6, NONE, NONE, NONE);
    });
    // Note 0 ends at 1, note 1 at 5; 70 begins at first, 40 at last, and the lines cross.
    test(0, may, "c sounds while the NEXT of a begins, by one", () -> dueMended(4, 20, 16, 0));
    test(0, may, "c ends as the NEXT of a begins", () -> dueMended(5, 17, 16, 1));
    test(0, may, "a would rest longer than LONGEST by one", () -> dueMended(5, 18, 16, 0));
    test(0, may, "a would rest just LONGEST", () -> dueMended(5, 18, 17, 1));
    test(0, again, "ten times for five turned lines, the first with each of the others and so on", () -> {
      PartedVoices x = turned(5);
      due("mend()", x.mend(), 10);
      dueNext(x, 5, 6, 7, 8, 9, NONE, NONE, NONE, NONE, NONE);
      due("told(6)", x.told(6), 0);
    });
    test(0, again, "then no more", () -> {
      PartedVoices x = turned(5);
      x.mend();
      due("mend()", x.mend(), 0);
    });
    test(0, again, "those stay that cross and can't change", () -> {
      PartedVoices x = withNotes(0, 1, 50, 0, 5, 60, 4, 1, 70, 17, 1, 40);
      x.follow(0, 2);
      x.follow(1, 3);
      x.mend();
      due("told(6)", x.told(6), 1);
    });
  }

  private static void dueMended(int nextOn, int lastOn, int longest, int times) {
    PartedVoices x = withNotes(0, 1, 50, 0, 5, 60, nextOn, 1, 70, lastOn, 1, 40);
    x.term(4, longest);
    x.follow(0, 2);
    x.follow(1, 3);
    due("told(6)", x.told(6), 1);
    due("mend()", x.mend(), times);
    dueNext(x, times == 0 ? 2 : 3, times == 0 ? 3 : 2, NONE, NONE);
  }

  private static void asked() {
    String nothing = "ASKED, nothing changes by it.";
    test(0, nothing, "told, at, cost, least, first, voice, member", () -> {
      PartedVoices x = linked(4);
      x.cut(1);
      x.undo(1);
      int[] before = whole(x);
      for (int what = 0; what < 16; what++) x.told(what);
      for (int i = 0; i < 4; i++) {
        for (int what = 0; what < 8; what++) x.at(i, what);
        for (int b = 0; b < 4; b++) x.cost(i, b);
        for (int k = 0; k < 6; k++) x.first(k, i);
        x.least(i);
        x.member(0, i);
      }
      for (int what = 0; what < 7; what++) x.voice(0, what);
      dueRow("what is so", whole(x), before);
    });
    test(0, nothing, "a PRICE asked between others does not stay", () -> {
      PartedVoices x = four();
      x.at(0, 6);
      due("least(2)", x.least(2), 43);
      x.at(3, 6);
      due("first(2, 1)", x.first(2, 1), 3);
      x.at(1, 6);
      due("told(5)", x.told(5), 43);
      x.at(2, 6);
      due("told(3)", x.told(3), 2);
      x.at(0, 6);
      due("part(2)", x.part(2), 43);
      x.write(2, 43);
      x.at(0, 6);
      due("told(13)", x.told(13), NONE);
    });
    String rests = "RESTS of a VOICE: all by which ON of a NOTE in it is more than OFF of the one ahead, together.";
    test(0, rests, "one note: none", () -> due("voice(0, 5)", chain(1).voice(0, 5), 0));
    test(0, rests, "they touch: none", () -> due("voice(0, 5)", linked(10).voice(0, 5), 0));
    test(0, rests, "the longest", () -> {
      PartedVoices x = withNotes(0, 1, 60, 99, 32, 60);
      x.term(4, 99);
      x.follow(0, 1);
      due("voice(0, 5)", x.voice(0, 5), 98);
    });
    test(0, rests, "those of another voice are not of it", () -> {
      PartedVoices x = withNotes(0, 1, 60, 0, 1, 61, 3, 1, 60, 5, 1, 61);
      x.follow(0, 2);
      x.follow(1, 3);
      due("voice(0, 5)", x.voice(0, 5), 2);
      due("voice(1, 5)", x.voice(1, 5), 4);
    });
  }

  private static void book() {
    String book = "THE BOOK (20 at most) tells LEAST of k VOICES (or NONE): WRONG: the first that is otherwise now; NONE.";
    test(0, book, "no entries: none is wrong", () -> due("told(13)", empty().told(13), NONE));
    test(0, book, "twenty stand, all right", () -> {
      PartedVoices x = four();
      for (int i = 0; i < 20; i++) x.write(2, 43);
      due("told(12)", x.told(12), 20);
      due("told(13)", x.told(13), NONE);
    });
    test(0, book, "the twentieth alone is wrong", () -> {
      PartedVoices x = four();
      for (int i = 0; i < 19; i++) x.write(3, 61);
      x.write(3, 62);
      due("told(13)", x.told(13), 19);
    });
    test(0, book, "of two wrong ones the first", () -> {
      PartedVoices x = four();
      x.write(2, 43);
      x.write(2, 44);
      x.write(2, 42);
      due("told(13)", x.told(13), 1);
    });
    test(0, book, "NONE told where there is none is right, a number is wrong", () -> {
      PartedVoices x = four();
      x.write(1, NONE);
      x.write(0, NONE);
      x.write(10, NONE);
      due("told(13)", x.told(13), NONE);
      x.write(1, 0);
      due("told(13)", x.told(13), 3);
    });
    test(0, book, "NONE told where there is one is wrong", () -> {
      PartedVoices x = four();
      x.write(2, NONE);
      due("told(13)", x.told(13), 0);
    });
    test(0, book, "as it is now: right, then wrong, then right", () -> {
      PartedVoices x = four();
      x.write(2, 43);
      due("told(13)", x.told(13), NONE);
      x.term(3, 21);
      due("told(13)", x.told(13), 0);
      x.undo(1);
      due("told(13)", x.told(13), NONE);
    });
    test(0, book, "without notes LEAST of 0 is 0", () -> {
      PartedVoices x = empty();
      x.write(0, 0);
      x.write(1, NONE);
      due("told(13)", x.told(13), NONE);
    });
  }

  private static void draws() {
    String seed = "THE SEED (0 at first: each DRAW it becomes it times 1103515245 and 12345, left over by 2 to the 31;";
    String draw = "the DRAW of n is it / 65536, left over by n)";
    String drawn = "DRAWS of 24 (ON), of 6 (LENGTH less 1), of 25 (PITCH less 48): this NOTE comes.";
    test(0, seed, "0 at first", () -> due("told(15)", empty().told(15), 0));
    test(0, seed, "three draws from 0, the second wraps around", () -> dueDrawn(0, 654583775, 0, 1, 61));
    test(0, seed, "from 1", () -> dueDrawn(1, 662824084, 14, 19, 61));
    test(0, seed, "from the greatest seed, which wraps around at once", () -> dueDrawn(MAX, 646343466, 17, 23, 60));
    test(0, seed, "from the greatest but one", () -> dueDrawn(MAX - 1, 638103157, 11, 12, 59));
    test(0, draw, "from 65535 and 65536", () -> {
      dueDrawn(65535, 1664838442, 22, 27, 51);
      dueDrawn(65536, 1673078751, 13, 19, 52);
    });
    test(0, drawn, "the least of all three", () -> dueDrawn(2999, 1744950338, 0, 1, 48));
    test(0, drawn, "the greatest of all three", () -> dueDrawn(4044, 1766138651, 23, 29, 72));
    String room = "n times, while there is room:";
    test(0, room, "room for one of three: one is drawn, by three draws", () -> {
      PartedVoices x = chain(9);
      due("drift(3)", x.drift(3), 10);
      due("told(15)", x.told(15), 654583775);
    });
    test(0, room, "no room: no draw", () -> {
      PartedVoices x = chain(10);
      x.seed(7);
      due("drift(1)", x.drift(1), 10);
      due("told(15)", x.told(15), 7);
    });
    test(0, room, "room for all ten", () -> due("drift(10)", empty().drift(10), 10));
  }

  private static void dueDrawn(int from, int seed, int on, int off, int pitch) {
    PartedVoices x = empty();
    x.seed(from);
    x.drift(1);
    dueNotes(x, on, off, pitch);
    due("THE SEED", x.told(15), seed);
  }

  public static void main(String[] args) {
    numbers();
    notes();
    order();
    terms();
    mayFollow();
    toFollow();
    next();
    voices();
    partings();
    firstOnes();
    prices();
    crossings();
    mended();
    asked();
    book();
    draws();
    end(0, 0);
  }
}
