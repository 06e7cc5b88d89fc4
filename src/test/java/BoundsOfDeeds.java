/** The boundaries that promises 9 to 20 name: deeds, and their undoing. */
public final class BoundsOfDeeds extends Checks {
  private interface Call {
    int on(PartedVoices x);
  }

  /** Each number far out of bounds, put where the call has it. */
  private interface FarCall {
    int on(PartedVoices x, int far);
  }

  private static void dueFar(String name, int notes, FarCall call, int want) {
    for (int far : FAR_BELOW) due(name + " with " + far, call.on(chain(notes), far), want);
    for (int far : FAR_ABOVE) due(name + " with " + far, call.on(chain(notes), far), want);
  }

  private static void note() {
    String note = "A NOTE comes: its number. OUTSIDE, FULL (10).";
    test(9, note, "the first", () -> due("note", empty().note(5, 5, 5), 0));
    test(9, note, "the tenth", () -> due("note", chain(9).note(99, 32, 127), 9));
    test(9, note, "the eleventh", () -> due("note", chain(10).note(99, 32, 127), FULL));
    test(9, note, "the tenth again, after one has gone", () -> {
      PartedVoices x = chain(10);
      x.take(4);
      due("note", x.note(4, 1, 60), 4);
      due("note", x.note(4, 1, 60), FULL);
    });
    test(9, note, "the least of all three", () -> due("note", chain(9).note(0, 1, 0), 0));
    test(9, note, "the greatest of all three", () -> due("note", chain(9).note(99, 32, 127), 9));
    test(9, note, "ON too small", () -> due("note", chain(3).note(-1, 1, 60), OUTSIDE));
    test(9, note, "ON too large", () -> due("note", chain(3).note(100, 1, 60), OUTSIDE));
    test(9, note, "LENGTH too small", () -> due("note", chain(3).note(1, 0, 60), OUTSIDE));
    test(9, note, "LENGTH too large", () -> due("note", chain(3).note(1, 33, 60), OUTSIDE));
    test(9, note, "PITCH too small", () -> due("note", chain(3).note(1, 1, -1), OUTSIDE));
    test(9, note, "PITCH too large", () -> due("note", chain(3).note(1, 1, 128), OUTSIDE));
    test(9, note, "ON far away", () -> dueFar("note", 3, (x, far) -> x.note(far, 1, 60), OUTSIDE));
    test(9, note, "LENGTH far away", () -> dueFar("note", 3, (x, far) -> x.note(1, far, 60), OUTSIDE));
    test(9, note, "PITCH far away", () -> dueFar("note", 3, (x, far) -> x.note(1, 1, far), OUTSIDE));
    test(9, note, "amid others, those behind it move up", () -> {
      PartedVoices x = withNotes(1, 1, 10, 3, 1, 30, 5, 1, 50);
      due("note", x.note(3, 1, 29), 1);
      dueNotes(x, 1, 2, 10, 3, 4, 29, 3, 4, 30, 5, 6, 50);
    });
  }

  private static void take() {
    String take = "A NOTE goes: how many are left. UNKNOWN.";
    test(10, take, "the only one", () -> {
      PartedVoices x = chain(1);
      due("take(0)", x.take(0), 0);
      due("take(0)", x.take(0), UNKNOWN);
    });
    test(10, take, "the first", () -> {
      PartedVoices x = withNotes(1, 1, 10, 3, 1, 30, 5, 1, 50);
      due("take(0)", x.take(0), 2);
      dueNotes(x, 3, 4, 30, 5, 6, 50);
    });
    test(10, take, "the last", () -> {
      PartedVoices x = withNotes(1, 1, 10, 3, 1, 30, 5, 1, 50);
      due("take(2)", x.take(2), 2);
      dueNotes(x, 1, 2, 10, 3, 4, 30);
    });
    test(10, take, "one of ten", () -> due("take(9)", chain(10).take(9), 9));
    test(10, take, "none there", () -> due("take(0)", empty().take(0), UNKNOWN));
    test(10, take, "behind the last", () -> due("take(3)", chain(3).take(3), UNKNOWN));
    test(10, take, "behind ten", () -> due("take(10)", chain(10).take(10), UNKNOWN));
    test(10, take, "ahead of the first", () -> due("take(-1)", chain(3).take(-1), UNKNOWN));
    test(10, take, "far away", () -> dueFar("take", 10, (x, far) -> x.take(far), UNKNOWN));
    test(10, take, "all, one by one", () -> {
      PartedVoices x = chain(10);
      for (int left = 9; left >= 0; left--) due("take(0)", x.take(0), left);
    });
  }

  private static void move() {
    String move = "A NOTE has this ON, LENGTH, PITCH (it goes, and comes anew): its number. UNKNOWN, OUTSIDE.";
    test(11, move, "where ten are: there is room for it", () -> {
      PartedVoices x = chain(10);
      due("move", x.move(0, 99, 32, 127), 9);
      due("told(0)", x.told(0), 10);
      due("at(9, 1)", x.at(9, 1), 131);
    });
    test(11, move, "the last to the head", () -> due("move", chain(10).move(9, 0, 1, 0), 0));
    test(11, move, "the only one", () -> {
      PartedVoices x = chain(1);
      due("move", x.move(0, 50, 2, 70), 0);
      dueNotes(x, 50, 52, 70);
    });
    test(11, move, "comes anew: behind those like it", () -> {
      PartedVoices x = chain(1);
      x.share(0);
      x.share(0);
      due("move, as it was", x.move(0, 0, 1, 60), 2);
    });
    test(11, move, "behind one that came while it was elsewhere", () -> {
      PartedVoices x = withNotes(5, 1, 60, 9, 1, 60);
      due("move", x.move(1, 5, 1, 60), 1);
      due("move", x.move(0, 5, 1, 60), 1);
    });
    test(11, move, "UNKNOWN: behind the last", () -> due("move", chain(3).move(3, 1, 1, 60), UNKNOWN));
    test(11, move, "UNKNOWN: ahead of the first", () -> due("move", chain(3).move(-1, 1, 1, 60), UNKNOWN));
    test(11, move, "UNKNOWN: behind ten", () -> due("move", chain(10).move(10, 1, 1, 60), UNKNOWN));
    test(11, move, "UNKNOWN: none there", () -> due("move", empty().move(0, 1, 1, 60), UNKNOWN));
    test(11, move, "UNKNOWN: far away", () -> dueFar("move", 10, (x, far) -> x.move(far, 1, 1, 60), UNKNOWN));
    test(11, move, "ON 0 and 99", () -> {
      due("move", chain(3).move(1, 0, 1, 60), 1);
      due("move", chain(3).move(1, 99, 1, 60), 2);
    });
    test(11, move, "ON too small", () -> due("move", chain(3).move(0, -1, 1, 60), OUTSIDE));
    test(11, move, "ON too large", () -> due("move", chain(3).move(0, 100, 1, 60), OUTSIDE));
    test(11, move, "LENGTH 1 and 32", () -> {
      due("move", chain(3).move(1, 1, 1, 60), 1);
      due("move", chain(3).move(1, 1, 32, 60), 1);
    });
    test(11, move, "LENGTH too small", () -> due("move", chain(3).move(0, 1, 0, 60), OUTSIDE));
    test(11, move, "LENGTH too large", () -> due("move", chain(3).move(0, 1, 33, 60), OUTSIDE));
    test(11, move, "PITCH 0 and 127", () -> {
      due("move", chain(3).move(2, 1, 1, 0), 1);
      due("move", chain(3).move(0, 1, 1, 127), 1);
    });
    test(11, move, "PITCH too small", () -> due("move", chain(3).move(0, 1, 1, -1), OUTSIDE));
    test(11, move, "PITCH too large", () -> due("move", chain(3).move(0, 1, 1, 128), OUTSIDE));
    test(11, move, "ON far away", () -> dueFar("move", 3, (x, far) -> x.move(0, far, 1, 60), OUTSIDE));
    test(11, move, "LENGTH far away", () -> dueFar("move", 3, (x, far) -> x.move(0, 1, far, 60), OUTSIDE));
    test(11, move, "PITCH far away", () -> dueFar("move", 3, (x, far) -> x.move(0, 1, 1, far), OUTSIDE));
  }

  private static void share() {
    String share = "A NOTE like NOTE i comes: its number. UNKNOWN, FULL (10).";
    test(12, share, "the tenth", () -> due("share(0)", chain(9).share(0), 1));
    test(12, share, "the last, the tenth", () -> {
      PartedVoices x = withNotes(99, 32, 127);
      for (int i = 1; i <= 9; i++) due("share(0)", x.share(0), i);
      due("at(9, 1)", x.at(9, 1), 131);
      due("share(0)", x.share(0), FULL);
    });
    test(12, share, "the eleventh", () -> due("share(0)", chain(10).share(0), FULL));
    test(12, share, "like it in all three", () -> {
      PartedVoices x = withNotes(1, 7, 10, 3, 32, 127, 5, 1, 50);
      due("share(1)", x.share(1), 2);
      dueNotes(x, 1, 8, 10, 3, 35, 127, 3, 35, 127, 5, 6, 50);
    });
    test(12, share, "ahead of a longer one of its PITCH", () -> due("share(0)", withNotes(5, 1, 60, 5, 2, 60).share(0), 1));
    test(12, share, "none there", () -> due("share(0)", empty().share(0), UNKNOWN));
    test(12, share, "behind the last", () -> due("share(3)", chain(3).share(3), UNKNOWN));
    test(12, share, "ahead of the first", () -> due("share(-1)", chain(3).share(-1), UNKNOWN));
    test(12, share, "far away", () -> dueFar("share", 9, (x, far) -> x.share(far), UNKNOWN));
  }

  private static void term() {
    String term = "A TERM (0 STEP, 1 GAP, 2 LEAP, 3 ENTRY, 4 LONGEST) is v: what it was. OUTSIDE.";
    test(13, term, "0 is the first", () -> {
      PartedVoices x = empty();
      due("term(0, 9)", x.term(0, 9), 1);
      due("told(7)", x.told(7), 9);
    });
    test(13, term, "4 is the last", () -> {
      PartedVoices x = empty();
      due("term(4, 99)", x.term(4, 99), 16);
      due("told(11)", x.told(11), 99);
    });
    test(13, term, "-1 is too small", () -> due("term(-1, 0)", empty().term(-1, 0), OUTSIDE));
    test(13, term, "5 is too large", () -> due("term(5, 0)", empty().term(5, 0), OUTSIDE));
    test(13, term, "far away", () -> dueFar("term", 3, (x, far) -> x.term(far, 0), OUTSIDE));
    int[] greatest = {9, 9, 99, 999, 99};
    for (int i = 0; i < 5; i++) {
      int which = i;
      test(13, term, "term " + which + ": the greatest, then 0", () -> {
        PartedVoices x = empty();
        x.term(which, greatest[which]);
        due("term(" + which + ", 0)", x.term(which, 0), greatest[which]);
        due("term(" + which + ", 0)", x.term(which, 0), 0);
      });
      test(13, term, "term " + which + ": too small", () -> due("term", empty().term(which, -1), OUTSIDE));
      test(13, term, "term " + which + ": too large", () -> due("term", empty().term(which, greatest[which] + 1), OUTSIDE));
      test(13, term, "term " + which + ": far away", () -> dueFar("term", 3, (x, far) -> x.term(which, far), OUTSIDE));
    }
  }

  private static void follow() {
    String follow = "NEXT of a is b (that of whom b was the NEXT is NONE then): what it costs TO FOLLOW. UNKNOWN, NOT: b MAY not FOLLOW a.";
    test(14, follow, "it costs nothing: 0", () -> due("follow(0, 1)", chain(2).follow(0, 1), 0));
    test(14, follow, "the first and the last of ten", () -> due("follow(0, 9)", chain(10).follow(0, 9), 8));
    test(14, follow, "that of whom b was the NEXT is NONE then", () -> {
      PartedVoices x = chain(3);
      x.follow(0, 2);
      due("follow(1, 2)", x.follow(1, 2), 0);
      dueNext(x, NONE, 2, NONE);
    });
    test(14, follow, "that is so for a later one, too", () -> {
      PartedVoices x = chain(3);
      x.follow(1, 2);
      due("follow(0, 2)", x.follow(0, 2), 1);
      dueNext(x, 2, NONE, NONE);
    });
    test(14, follow, "b is its NEXT already", () -> {
      PartedVoices x = chain(3);
      x.follow(0, 2);
      due("follow(0, 2)", x.follow(0, 2), 1);
      dueNext(x, 2, NONE, NONE);
    });
    test(14, follow, "a had another NEXT: that one is nobody's", () -> {
      PartedVoices x = chain(3);
      x.follow(0, 2);
      due("follow(0, 1)", x.follow(0, 1), 0);
      dueNext(x, 1, NONE, NONE);
      due("at(2, 4)", x.at(2, 4), NONE);
    });
    test(14, follow, "those behind b come along", () -> {
      PartedVoices x = linked(4);
      due("follow(0, 2)", x.follow(0, 2), 1);
      dueNext(x, 2, NONE, 3, NONE);
    });
    test(14, follow, "UNKNOWN: a behind the last", () -> due("follow(2, 1)", chain(2).follow(2, 1), UNKNOWN));
    test(14, follow, "UNKNOWN: b behind the last", () -> due("follow(0, 2)", chain(2).follow(0, 2), UNKNOWN));
    test(14, follow, "UNKNOWN: a is NONE", () -> due("follow(-1, 1)", chain(2).follow(NONE, 1), UNKNOWN));
    test(14, follow, "UNKNOWN: b is NONE", () -> due("follow(0, -1)", chain(2).follow(0, NONE), UNKNOWN));
    test(14, follow, "UNKNOWN: a far away", () -> dueFar("follow", 10, (x, far) -> x.follow(far, 9), UNKNOWN));
    test(14, follow, "UNKNOWN: b far away", () -> dueFar("follow", 10, (x, far) -> x.follow(0, far), UNKNOWN));
    test(14, follow, "NOT: itself", () -> due("follow(1, 1)", chain(2).follow(1, 1), NOT));
    test(14, follow, "NOT: the earlier one", () -> due("follow(1, 0)", chain(2).follow(1, 0), NOT));
    test(14, follow, "NOT: a still sounds, by one", () -> due("follow(0, 1)", withNotes(0, 3, 60, 2, 1, 60).follow(0, 1), NOT));
    test(14, follow, "a ends as b begins", () -> due("follow(0, 1)", withNotes(0, 2, 60, 2, 1, 60).follow(0, 1), 0));
    test(14, follow, "the rest is just LONGEST", () -> due("follow(0, 1)", withNotes(0, 1, 60, 17, 1, 60).follow(0, 1), 16));
    test(14, follow, "NOT: the rest is longer by one", () -> due("follow(0, 1)", withNotes(0, 1, 60, 18, 1, 60).follow(0, 1), NOT));
  }

  private static void cut() {
    String cut = "NEXT of a NOTE is NONE: what it was. UNKNOWN.";
    test(15, cut, "it had one", () -> {
      PartedVoices x = linked(3);
      due("cut(0)", x.cut(0), 1);
      dueNext(x, NONE, 2, NONE);
    });
    test(15, cut, "it had none", () -> due("cut(2)", linked(3).cut(2), NONE));
    test(15, cut, "the last but one of ten", () -> due("cut(8)", linked(10).cut(8), 9));
    test(15, cut, "none there", () -> due("cut(0)", empty().cut(0), UNKNOWN));
    test(15, cut, "behind the last", () -> due("cut(3)", linked(3).cut(3), UNKNOWN));
    test(15, cut, "ahead of the first", () -> due("cut(-1)", linked(3).cut(-1), UNKNOWN));
    test(15, cut, "far away", () -> dueFar("cut", 10, (x, far) -> x.cut(far), UNKNOWN));
  }

  private static void part() {
    String part = "NEXT of all are FIRST of k VOICES (k NONE: of CHEAPEST): COST. OUTSIDE (NONE, 0 .. 10), NOT: there is no PARTING with k.";
    test(16, part, "NONE: of CHEAPEST, which is neither the fewest nor the most", () -> {
      PartedVoices x = four();
      x.term(3, 1);
      due("part(NONE)", x.part(NONE), 4);
      dueNext(x, 2, NONE, NONE, NONE);
    });
    test(16, part, "NONE: of like ones of the least k", () -> {
      PartedVoices x = chain(3);
      x.term(3, 0);
      x.term(1, 0);
      due("part(NONE)", x.part(NONE), 0);
      dueNext(x, 1, 2, NONE);
    });
    test(16, part, "NONE without notes", () -> due("part(NONE)", empty().part(NONE), 0));
    test(16, part, "0 without notes", () -> due("part(0)", empty().part(0), 0));
    test(16, part, "1 without notes: NOT", () -> due("part(1)", empty().part(1), NOT));
    test(16, part, "0 with a note: NOT", () -> due("part(0)", chain(1).part(0), NOT));
    test(16, part, "10 of ten", () -> {
      PartedVoices x = linked(10);
      due("part(10)", x.part(10), 200);
      due("told(1)", x.told(1), 10);
    });
    test(16, part, "10 of nine: NOT", () -> due("part(10)", chain(9).part(10), NOT));
    test(16, part, "FEWEST, and one fewer: NOT", () -> {
      due("part(2)", four().part(2), 43);
      due("part(1)", four().part(1), NOT);
    });
    test(16, part, "as many as notes, and one more: NOT", () -> {
      due("part(4)", four().part(4), 80);
      due("part(5)", four().part(5), NOT);
    });
    test(16, part, "-2 is too small", () -> due("part(-2)", four().part(-2), OUTSIDE));
    test(16, part, "11 is too large", () -> due("part(11)", chain(10).part(11), OUTSIDE));
    test(16, part, "far away", () -> dueFar("part", 10, (x, far) -> x.part(far), OUTSIDE));
    test(16, part, "NEXT of all: also of those that must lose theirs", () -> {
      PartedVoices x = four();
      x.follow(0, 3);
      x.follow(1, 2);
      due("part(3)", x.part(3), 61);
      dueNext(x, 2, NONE, NONE, NONE);
    });
    test(16, part, "COST is LEAST of k, each k from FEWEST to the notes", () -> {
      PartedVoices x = chain(10);
      for (int k = 1; k <= 10; k++) {
        due("part(" + k + ")", x.part(k), 20 * k);
        due("told(1)", x.told(1), k);
        due("told(2)", x.told(2), 20 * k);
      }
    });
  }

  private static void mend() {
    String mend = "MENDED: how often.";
    test(17, mend, "no notes", () -> due("mend()", empty().mend(), 0));
    test(17, mend, "no lines", () -> due("mend()", chain(10).mend(), 0));
    test(17, mend, "one line", () -> {
      PartedVoices x = four();
      x.follow(0, 3);
      due("mend()", x.mend(), 0);
      dueNext(x, 3, NONE, NONE, NONE);
    });
    test(17, mend, "once", () -> {
      PartedVoices x = four();
      x.follow(0, 3);
      x.follow(1, 2);
      due("mend()", x.mend(), 1);
      dueNext(x, 2, 3, NONE, NONE);
    });
    test(17, mend, "they cross, and none can change", () -> {
      PartedVoices x = withNotes(0, 1, 50, 0, 5, 60, 1, 1, 70, 5, 1, 40);
      x.follow(0, 2);
      x.follow(1, 3);
      due("told(6)", x.told(6), 1);
      due("mend()", x.mend(), 0);
      dueNext(x, 2, 3, NONE, NONE);
    });
    test(17, mend, "lines that do not cross stay, be they dearer so", () -> {
      PartedVoices x = withNotes(0, 1, 60, 0, 1, 60, 1, 1, 50, 1, 1, 70);
      x.follow(0, 3);
      x.follow(1, 2);
      due("mend()", x.mend(), 0);
      dueNext(x, 3, 2, NONE, NONE);
    });
  }

  private static void clear() {
    String clear = "No NOTES any more: how many there were.";
    test(18, clear, "none there", () -> due("clear()", empty().clear(), 0));
    test(18, clear, "ten there", () -> {
      PartedVoices x = linked(10);
      due("clear()", x.clear(), 10);
      due("told(0)", x.told(0), 0);
      due("told(1)", x.told(1), 0);
      due("told(2)", x.told(2), 0);
      due("at(0, 0)", x.at(0, 0), UNKNOWN);
    });
    test(18, clear, "twice", () -> {
      PartedVoices x = chain(10);
      x.clear();
      due("clear()", x.clear(), 0);
    });
    test(18, clear, "room for ten again", () -> {
      PartedVoices x = chain(10);
      x.clear();
      for (int i = 0; i < 10; i++) due("note", x.note(i, 1, 60), i);
    });
    test(18, clear, "TERMS, THE SEED, THE BOOK stay", () -> {
      PartedVoices x = chain(2);
      x.term(2, 99);
      x.seed(5);
      x.write(0, 0);
      x.clear();
      due("told(9)", x.told(9), 99);
      due("told(15)", x.told(15), 5);
      due("told(12)", x.told(12), 1);
    });
  }

  private static void drift() {
    String drift = "n times BY DRAWS (1 .. 10): NOTES. OUTSIDE.";
    test(19, drift, "1", () -> due("drift(1)", empty().drift(1), 1));
    test(19, drift, "10", () -> due("drift(10)", empty().drift(10), 10));
    test(19, drift, "0 is too small", () -> due("drift(0)", empty().drift(0), OUTSIDE));
    test(19, drift, "-1 is too small", () -> due("drift(-1)", empty().drift(-1), OUTSIDE));
    test(19, drift, "11 is too large", () -> due("drift(11)", empty().drift(11), OUTSIDE));
    test(19, drift, "far away", () -> dueFar("drift", 3, (x, far) -> x.drift(far), OUTSIDE));
    test(19, drift, "full: NOTES, not FULL", () -> due("drift(1)", chain(10).drift(1), 10));
    test(19, drift, "room for fewer", () -> due("drift(10)", chain(7).drift(10), 10));
    test(19, drift, "0 and 11 where it is full: OUTSIDE all the same", () -> {
      due("drift(0)", chain(10).drift(0), OUTSIDE);
      due("drift(11)", chain(10).drift(11), OUTSIDE);
    });
    test(19, drift, "ten at once are ten one by one", () -> {
      PartedVoices x = empty();
      PartedVoices y = empty();
      x.seed(MAX);
      y.seed(MAX);
      x.drift(10);
      for (int i = 1; i <= 10; i++) due("drift(1)", y.drift(1), i);
      dueRow("what is so", whole(x), whole(y));
    });
  }

  private static void undo() {
    String undo = "The n latest (1 .. 16) are undone: NOTES. OUTSIDE, NOT: not so many.";
    test(20, undo, "1 of one", () -> due("undo(1)", chain(1).undo(1), 0));
    test(20, undo, "16 of sixteen", () -> {
      PartedVoices x = chain(8);
      for (int i = 0; i < 8; i++) x.mend();
      due("undo(16)", x.undo(16), 0);
    });
    test(20, undo, "16 of fifteen: NOT", () -> {
      PartedVoices x = chain(8);
      for (int i = 0; i < 7; i++) x.mend();
      due("undo(16)", x.undo(16), NOT);
      due("undo(15)", x.undo(15), 0);
    });
    test(20, undo, "1 of none: NOT", () -> due("undo(1)", empty().undo(1), NOT));
    test(20, undo, "one too many: NOT", () -> {
      PartedVoices x = chain(3);
      due("undo(4)", x.undo(4), NOT);
      due("undo(3)", x.undo(3), 0);
      due("undo(1)", x.undo(1), NOT);
    });
    test(20, undo, "0 is too small", () -> due("undo(0)", chain(3).undo(0), OUTSIDE));
    test(20, undo, "-1 is too small", () -> due("undo(-1)", chain(3).undo(-1), OUTSIDE));
    test(20, undo, "17 is too large, also of more deeds", () -> {
      PartedVoices x = empty();
      for (int i = 0; i < 20; i++) x.mend();
      due("undo(17)", x.undo(17), OUTSIDE);
    });
    test(20, undo, "far away", () -> dueFar("undo", 10, (x, far) -> x.undo(far), OUTSIDE));
    test(20, undo, "what is undone can't be undone again, nor done again", () -> {
      PartedVoices x = chain(5);
      due("undo(2)", x.undo(2), 3);
      due("told(14)", x.told(14), 3);
      due("undo(4)", x.undo(4), NOT);
      due("undo(3)", x.undo(3), 0);
    });
  }

  private static void kept() {
    String kept = "since the IMAGE (16 at most are kept)";
    test(0, kept, "the seventeenth pushes out the first", () -> {
      PartedVoices x = empty();
      for (int v = 1; v <= 17; v++) x.term(3, v);
      due("told(14)", x.told(14), 16);
      due("undo(16)", x.undo(16), 0);
      due("told(10)", x.told(10), 1);
      due("undo(1)", x.undo(1), NOT);
    });
    test(0, kept, "each of sixteen steps back, the kept ones having gone round", () -> {
      for (int steps = 1; steps <= 16; steps++) {
        PartedVoices x = empty();
        for (int v = 1; v <= 40; v++) x.term(3, v);
        x.undo(steps);
        due("told(10) after undo(" + steps + ")", x.told(10), 40 - steps);
        due("told(14) after undo(" + steps + ")", x.told(14), 16 - steps);
      }
    });
    test(0, kept, "undone, done anew, beyond the round's end", () -> {
      PartedVoices x = empty();
      for (int v = 1; v <= 20; v++) x.term(3, v);
      x.undo(10);
      for (int v = 101; v <= 112; v++) x.term(3, v);
      due("told(14)", x.told(14), 16);
      x.undo(12);
      due("told(10)", x.told(10), 10);
      x.undo(4);
      due("told(10)", x.told(10), 6);
      due("undo(1)", x.undo(1), NOT);
    });
    test(0, kept, "the IMAGE kept: none from ahead of it", () -> {
      PartedVoices x = chain(3);
      x.keep(1);
      due("told(14)", x.told(14), 0);
      due("undo(1)", x.undo(1), NOT);
      x.share(0);
      due("undo(2)", x.undo(2), NOT);
      due("undo(1)", x.undo(1), 3);
    });
    test(0, kept, "gone back to the IMAGE: none from ahead of it", () -> {
      PartedVoices x = chain(3);
      x.keep(1);
      x.clear();
      x.goBack(1);
      due("told(14)", x.told(14), 0);
      due("undo(1)", x.undo(1), NOT);
    });
    test(0, kept, "notes by draws, twenty-one deeds in three calls", () -> {
      PartedVoices x = empty();
      x.drift(10);
      x.clear();
      x.drift(10);
      due("told(14)", x.told(14), 16);
      due("undo(11)", x.undo(11), 10);
      due("undo(5)", x.undo(5), 5);
    });
  }

  private static void counted() {
    String deeds = "(note(), take(), move(), share(), term(), follow(), cut(), part(), mend(), clear(), each NOTE BY DRAWS:"
        + " all that were not refused, be it that they changed nothing)";
    test(0, deeds, "note()", () -> dueUndone(x -> x.note(3, 3, 3)));
    test(0, deeds, "take()", () -> dueUndone(x -> x.take(1)));
    test(0, deeds, "move()", () -> dueUndone(x -> x.move(1, 9, 9, 9)));
    test(0, deeds, "move() to where it is", () -> dueUndone(x -> x.move(1, 1, 1, 60)));
    test(0, deeds, "share()", () -> dueUndone(x -> x.share(1)));
    test(0, deeds, "term()", () -> dueUndone(x -> x.term(4, 99)));
    test(0, deeds, "term() as it was", () -> dueUndone(x -> x.term(4, 16)));
    test(0, deeds, "follow()", () -> dueUndone(x -> x.follow(0, 2)));
    test(0, deeds, "follow() as it does", () -> dueUndone(x -> x.follow(0, 1)));
    test(0, deeds, "cut()", () -> dueUndone(x -> x.cut(0)));
    test(0, deeds, "cut() of none", () -> dueUndone(x -> x.cut(4)));
    test(0, deeds, "part()", () -> dueUndone(x -> x.part(5)));
    test(0, deeds, "part() as it is", () -> dueUndone(x -> x.part(1)));
    test(0, deeds, "part() of CHEAPEST", () -> dueUndone(x -> x.part(NONE)));
    test(0, deeds, "mend() of none", () -> dueUndone(x -> x.mend()));
    test(0, deeds, "clear()", () -> dueUndone(x -> x.clear()));
    test(0, deeds, "a note by draws", () -> dueUndone(x -> x.drift(1)));
    test(0, deeds, "mend()", () -> {
      PartedVoices x = four();
      x.follow(0, 3);
      x.follow(1, 2);
      due("mend()", x.mend(), 1);
      due("told(14)", x.told(14), 7);
      due("undo(1)", x.undo(1), 4);
      dueNext(x, 3, 2, NONE, NONE);
    });
    test(0, deeds, "clear() of none, part() and mend() without notes", () -> {
      PartedVoices x = empty();
      x.clear();
      x.part(NONE);
      x.part(0);
      x.mend();
      due("told(14)", x.told(14), 4);
    });
    test(0, deeds, "each note by draws is one, undone one by one", () -> {
      PartedVoices x = empty();
      x.drift(4);
      due("told(14)", x.told(14), 4);
      for (int left = 3; left >= 0; left--) due("undo(1)", x.undo(1), left);
    });
    test(0, deeds, "no note by draws: no deed", () -> {
      PartedVoices x = chain(10);
      x.drift(5);
      due("told(14)", x.told(14), 10);
    });
    test(0, deeds, "no others", () -> {
      PartedVoices x = chain(2);
      x.seed(7);
      x.write(1, 20);
      x.tear();
      x.told(5);
      x.undo(1);
      due("told(14)", x.told(14), 1);
    });
    test(0, deeds, "none that is refused", () -> {
      PartedVoices x = chain(10);
      x.note(0, 1, 60);
      x.note(-1, 1, 60);
      x.take(10);
      x.move(0, 0, 0, 0);
      x.share(0);
      x.term(9, 9);
      x.follow(1, 0);
      x.cut(10);
      x.part(0);
      x.part(11);
      x.drift(0);
      due("told(14)", x.told(14), 10);
    });
  }

  /** A deed on five notes in one voice counts for one, and undone all is as it was. */
  private static void dueUndone(Call deed) {
    PartedVoices x = linked(5);
    PartedVoices y = linked(5);
    int[] before = whole(y);
    due("a deed", deed.on(x) >= NONE ? 1 : 0, 1);
    due("told(14)", x.told(14), 10);
    due("undo(1)", x.undo(1), 5);
    int[] after = whole(x);
    after[15] = before[15];
    dueRow("what is so", after, before);
    dueLeast(x, NONE, 20, 40, 60, 80, 100);
  }

  private static void stay() {
    String stay = "NOTES, TERMS, NEXT are as ahead of them; THE SEED, THE BOOK stay.";
    test(0, stay, "the seed, told after", () -> {
      PartedVoices x = chain(1);
      x.seed(MAX);
      x.undo(1);
      due("told(15)", x.told(15), MAX);
    });
    test(0, stay, "the seed, drawn from", () -> {
      PartedVoices x = empty();
      x.drift(1);
      x.undo(1);
      due("told(15)", x.told(15), 654583775);
    });
    test(0, stay, "entries of the book, and none where it was torn", () -> {
      PartedVoices x = chain(2);
      x.write(1, 20);
      x.undo(1);
      due("told(12)", x.told(12), 1);
      x.tear();
      x.undo(1);
      due("told(12)", x.told(12), 0);
    });
    test(0, stay, "all TERMS, all NOTES, all NEXT, over several deeds at once", () -> {
      PartedVoices x = linked(4);
      int[] before = whole(x);
      for (int which = 0; which < 5; which++) x.term(which, 2);
      x.take(0);
      x.move(0, 50, 3, 3);
      x.clear();
      x.note(7, 7, 7);
      due("undo(9)", x.undo(9), 4);
      dueRow("what is so", whole(x), before);
    });
  }

  public static void main(String[] args) {
    note();
    take();
    move();
    share();
    term();
    follow();
    cut();
    part();
    mend();
    clear();
    drift();
    undo();
    kept();
    counted();
    stay();
    end(9, 20);
  }
}
