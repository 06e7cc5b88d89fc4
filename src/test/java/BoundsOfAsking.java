/** The boundaries that promises 1 to 8 name: a new object, and what is asked of it. */
public final class BoundsOfAsking extends Checks {
  private static void newObject() {
    test(1, "`PartedVoices()`: No NOTES.", "nothing there", () -> {
      PartedVoices x = empty();
      due("told(0)", x.told(0), 0);
      due("at(0, 0)", x.at(0, 0), UNKNOWN);
      due("voice(0, 0)", x.voice(0, 0), UNKNOWN);
      due("member(0, 0)", x.member(0, 0), UNKNOWN);
      due("cost(0, 0)", x.cost(0, 0), UNKNOWN);
      due("first(0, 0)", x.first(0, 0), UNKNOWN);
    });
    test(1, "`PartedVoices()`: No NOTES.", "all that is told", () -> {
      int[] wants = {0, 0, 0, 0, 0, 0, 0, 1, 1, 10, 20, 16, 0, NONE, 0, 0};
      PartedVoices x = empty();
      for (int what = 0; what < 16; what++) due("told(" + what + ")", x.told(what), wants[what]);
    });
    test(1, "`PartedVoices()`: No NOTES.", "no image, nothing to undo", () -> {
      PartedVoices x = empty();
      due("goBack(0)", x.goBack(0), NOT);
      due("goBack(1)", x.goBack(1), NOT);
      due("undo(1)", x.undo(1), NOT);
    });
    test(1, "`PartedVoices()`: No NOTES.", "whatever another object has", () -> {
      PartedVoices other = linked(10);
      other.term(0, 9);
      other.seed(77);
      other.write(3, 3);
      other.keep(0);
      PartedVoices x = empty();
      dueRow("what is so", whole(x), whole(empty()));
      due("told(0)", x.told(0), 0);
      due("goBack(0)", x.goBack(0), NOT);
    });
  }

  private static void told() {
    String told = "12 entries of THE BOOK, 13 WRONG, 14 how many can be undone, 15 THE SEED. OUTSIDE.";
    test(2, told, "15 is the last", () -> {
      PartedVoices x = empty();
      x.seed(99);
      due("told(15)", x.told(15), 99);
    });
    test(2, told, "16 is too large", () -> due("told(16)", four().told(16), OUTSIDE));
    test(2, told, "far too large", () -> {
      for (int far : FAR_ABOVE) due("told(" + far + ")", four().told(far), OUTSIDE);
    });
    test(2, told, "14: none, one, sixteen, no more than sixteen", () -> {
      PartedVoices x = empty();
      for (int deeds = 0; deeds <= 20; deeds++) {
        due("told(14)", x.told(14), Math.min(deeds, 16));
        x.mend();
      }
    });
    String first = "0 NOTES, 1 VOICES, 2 COST, 3 FEWEST, 4 CHEAPEST, 5 LEAST of this (3 to 5: 0, if there are no NOTES)";
    test(2, first, "0 is the first", () -> due("told(0)", four().told(0), 4));
    test(2, first, "-1 is too small", () -> due("told(-1)", four().told(-1), OUTSIDE));
    test(2, first, "far too small", () -> {
      for (int far : FAR_BELOW) due("told(" + far + ")", four().told(far), OUTSIDE);
    });
    test(2, first, "3 without notes", () -> due("told(3)", empty().told(3), 0));
    test(2, first, "4 without notes", () -> due("told(4)", empty().told(4), 0));
    test(2, first, "5 without notes", () -> due("told(5)", empty().told(5), 0));
    test(2, first, "3 to 5 once all notes have gone", () -> {
      PartedVoices x = four();
      due("told(3)", x.told(3), 2);
      x.clear();
      for (int what = 3; what <= 5; what++) due("told(" + what + ")", x.told(what), 0);
    });
    test(2, first, "3 to 5 of one note", () -> {
      PartedVoices x = chain(1);
      due("told(3)", x.told(3), 1);
      due("told(4)", x.told(4), 1);
      due("told(5)", x.told(5), 20);
    });
    test(2, first, "3 to 5 of ten that begin at once", () -> {
      PartedVoices x = chord(10);
      due("told(3)", x.told(3), 10);
      due("told(4)", x.told(4), 10);
      due("told(5)", x.told(5), 200);
    });
  }

  private static void at() {
    String what = "what = 0 ON, 1 OFF, 2 PITCH, 3 NEXT, 4 the one whose NEXT it is (NONE), 5 its VOICE, 6 PRICE, 7 how many MAY FOLLOW it."
        + " UNKNOWN, OUTSIDE.";
    test(3, what, "the first note", () -> due("at(0, 2)", four().at(0, 2), 60));
    test(3, what, "the last note", () -> due("at(3, 2)", four().at(3, 2), 74));
    test(3, what, "a note behind the last", () -> due("at(4, 2)", four().at(4, 2), UNKNOWN));
    test(3, what, "a note ahead of the first", () -> due("at(-1, 2)", four().at(-1, 2), UNKNOWN));
    test(3, what, "a note that has gone", () -> {
      PartedVoices x = four();
      x.take(0);
      due("at(3, 2)", x.at(3, 2), UNKNOWN);
      due("at(2, 2)", x.at(2, 2), 74);
    });
    test(3, what, "a note behind ten", () -> due("at(10, 0)", chain(10).at(10, 0), UNKNOWN));
    test(3, what, "notes far away, whatever is asked", () -> {
      for (int ask = 0; ask < 8; ask++) {
        for (int far : FAR_BELOW) due("at(" + far + ", " + ask + ")", chain(10).at(far, ask), UNKNOWN);
        for (int far : FAR_ABOVE) due("at(" + far + ", " + ask + ")", chain(10).at(far, ask), UNKNOWN);
      }
    });
    test(3, what, "7 is the last", () -> due("at(0, 7)", chain(10).at(0, 7), 9));
    test(3, what, "8 is too large", () -> due("at(0, 8)", four().at(0, 8), OUTSIDE));
    test(3, what, "0 is the first", () -> due("at(9, 0)", chain(10).at(9, 0), 9));
    test(3, what, "-1 is too small", () -> due("at(0, -1)", four().at(0, -1), OUTSIDE));
    test(3, what, "far away", () -> {
      for (int far : FAR_BELOW) due("at(0, " + far + ")", four().at(0, far), OUTSIDE);
      for (int far : FAR_ABOVE) due("at(0, " + far + ")", four().at(0, far), OUTSIDE);
    });
    test(3, what, "3 without a NEXT", () -> due("at(9, 3)", linked(10).at(9, 3), NONE));
    test(3, what, "3 with one", () -> due("at(8, 3)", linked(10).at(8, 3), 9));
    test(3, what, "4 of a first note", () -> due("at(0, 4)", linked(10).at(0, 4), NONE));
    test(3, what, "4 and 5 of each note alone, by each number of notes: nothing is read behind the last", () -> {
      for (int notes = 1; notes <= 10; notes++) dueAlone(chain(notes), notes);
    });
    test(3, what, "4 and 5 of each note alone, where more notes have been", () -> {
      for (int notes = 1; notes <= 10; notes++) {
        PartedVoices x = linked(10);
        x.clear();
        for (int i = 0; i < notes; i++) x.note(i, 1, 60);
        dueAlone(x, notes);
      }
    });
    test(3, what, "all of each note in one voice, by each number of notes", () -> {
      for (int notes = 1; notes <= 10; notes++) dueInOneVoice(notes);
    });
    test(3, what, "4 of one whose number is 0", () -> due("at(1, 4)", linked(10).at(1, 4), 0));
    test(3, what, "4 after the one ahead has left it", () -> {
      PartedVoices x = chain(3);
      x.follow(0, 1);
      x.follow(0, 2);
      due("at(1, 4)", x.at(1, 4), NONE);
      due("at(2, 4)", x.at(2, 4), 0);
    });
    test(3, what, "5 of the last of ten voices", () -> due("at(9, 5)", chord(10).at(9, 5), 9));
    test(3, what, "5 of the last of one voice", () -> due("at(9, 5)", linked(10).at(9, 5), 0));
    test(3, what, "7: none MAY FOLLOW the last", () -> due("at(9, 7)", chain(10).at(9, 7), 0));
    test(3, what, "7: those too, that follow another already", () -> {
      PartedVoices x = four();
      x.follow(1, 2);
      due("at(0, 7)", x.at(0, 7), 2);
    });
    test(3, what, "7: not those behind LONGEST", () -> {
      PartedVoices x = chain(10);
      x.term(4, 0);
      due("at(0, 7)", x.at(0, 7), 1);
    });
  }

  private static void dueAlone(PartedVoices x, int notes) {
    due("told(0)", x.told(0), notes);
    for (int i = 0; i < notes; i++) {
      due("at(" + i + ", 3) of " + notes, x.at(i, 3), NONE);
      due("at(" + i + ", 4) of " + notes, x.at(i, 4), NONE);
      due("at(" + i + ", 5) of " + notes, x.at(i, 5), i);
    }
  }

  /** Of one pitch, each beginning as the one ahead ends: without one amid them there is a rest of one. */
  private static void dueInOneVoice(int notes) {
    PartedVoices x = linked(notes);
    for (int i = 0; i < notes; i++) {
      int price = notes == 1 ? 20 : i == 0 || i == notes - 1 ? 0 : -1;
      int[] wants = {i, i + 1, 60, i == notes - 1 ? NONE : i + 1, i - 1, 0, price, notes - 1 - i};
      for (int what = 0; what < 8; what++) due("at(" + i + ", " + what + ") of " + notes, x.at(i, what), wants[what]);
    }
    int[] wants = {notes, 0, notes - 1, 60, 60, 0, 20};
    for (int what = 0; what < 7; what++) due("voice(0, " + what + ") of " + notes, x.voice(0, what), wants[what]);
  }

  private static void cost() {
    String cost = "What it costs TO FOLLOW a, to b; NONE: it MAY not. UNKNOWN.";
    test(4, cost, "it MAY not", () -> due("cost(0, 1)", chord(2).cost(0, 1), NONE));
    test(4, cost, "it costs nothing", () -> due("cost(0, 1)", chain(2).cost(0, 1), 0));
    test(4, cost, "the first to the last of ten", () -> due("cost(0, 9)", chain(10).cost(0, 9), 8));
    test(4, cost, "a is behind the last", () -> due("cost(2, 0)", chain(2).cost(2, 0), UNKNOWN));
    test(4, cost, "b is behind the last", () -> due("cost(0, 2)", chain(2).cost(0, 2), UNKNOWN));
    test(4, cost, "a is -1", () -> due("cost(-1, 0)", chain(2).cost(-1, 0), UNKNOWN));
    test(4, cost, "b is -1", () -> due("cost(0, -1)", chain(2).cost(0, -1), UNKNOWN));
    test(4, cost, "far away", () -> {
      for (int far : FAR_BELOW) due("cost(0, " + far + ")", chain(10).cost(0, far), UNKNOWN);
      for (int far : FAR_ABOVE) due("cost(0, " + far + ")", chain(10).cost(0, far), UNKNOWN);
      for (int far : FAR_BELOW) due("cost(" + far + ", 0)", chain(10).cost(far, 0), UNKNOWN);
      for (int far : FAR_ABOVE) due("cost(" + far + ", 0)", chain(10).cost(far, 0), UNKNOWN);
    });
    test(4, cost, "whoever follows now", () -> {
      PartedVoices x = four();
      x.follow(1, 2);
      due("cost(0, 2)", x.cost(0, 2), 1);
    });
  }

  private static void least() {
    String least = "LEAST of k (0 .. 10) VOICES. OUTSIDE.";
    test(5, least, "0 may be asked", () -> due("least(0)", four().least(0), NONE));
    test(5, least, "10 may be asked", () -> due("least(10)", chain(10).least(10), 200));
    test(5, least, "10 may be asked where there are fewer notes", () -> due("least(10)", chain(9).least(10), NONE));
    test(5, least, "-1 is too small", () -> due("least(-1)", four().least(-1), OUTSIDE));
    test(5, least, "11 is too large", () -> due("least(11)", chain(10).least(11), OUTSIDE));
    test(5, least, "far away", () -> {
      for (int far : FAR_BELOW) due("least(" + far + ")", four().least(far), OUTSIDE);
      for (int far : FAR_ABOVE) due("least(" + far + ")", four().least(far), OUTSIDE);
    });
    test(5, least, "each of ten, ENTRY 0 and nothing to pay: 0, not NONE", () -> {
      PartedVoices x = chain(10);
      x.term(3, 0);
      x.term(1, 0);
      dueLeast(x, NONE, 0, 0, 0, 0, 0, 0, 0, 0, 0, 0);
    });
    test(5, least, "each of ten with the greatest ENTRY", () -> {
      PartedVoices x = chain(10);
      x.term(3, 999);
      dueLeast(x, NONE, 999, 1998, 2997, 3996, 4995, 5994, 6993, 7992, 8991, 9990);
    });
    test(5, least, "ten that begin at once: ten voices or nothing", () ->
        dueLeast(chord(10), NONE, NONE, NONE, NONE, NONE, NONE, NONE, NONE, NONE, NONE, 200));
    test(5, least, "after the notes have become others", () -> {
      PartedVoices x = chain(3);
      due("least(3)", x.least(3), 60);
      x.take(0);
      dueLeast(x, NONE, 20, 40);
      x.undo(1);
      dueLeast(x, NONE, 20, 40, 60);
    });
  }

  private static void first() {
    String first = "NEXT of NOTE i in FIRST of k VOICES. UNKNOWN, OUTSIDE (k 0 .. 10), NOT: there is no PARTING with k.";
    test(6, first, "the last note", () -> due("first(1, 9)", chain(10).first(1, 9), NONE));
    test(6, first, "a note behind the last", () -> due("first(1, 3)", chain(3).first(1, 3), UNKNOWN));
    test(6, first, "a note ahead of the first", () -> due("first(1, -1)", chain(3).first(1, -1), UNKNOWN));
    test(6, first, "notes far away", () -> {
      for (int far : FAR_BELOW) due("first(1, " + far + ")", chain(10).first(1, far), UNKNOWN);
      for (int far : FAR_ABOVE) due("first(1, " + far + ")", chain(10).first(1, far), UNKNOWN);
    });
    test(6, first, "k 0 is no voices: NOT", () -> due("first(0, 0)", chain(3).first(0, 0), NOT));
    test(6, first, "k 10 of ten", () -> due("first(10, 0)", chain(10).first(10, 0), NONE));
    test(6, first, "k 10 of nine: NOT", () -> due("first(10, 0)", chain(9).first(10, 0), NOT));
    test(6, first, "k -1 is too small, be NONE what it is for part()", () -> due("first(-1, 0)", chain(3).first(NONE, 0), OUTSIDE));
    test(6, first, "k 11 is too large", () -> due("first(11, 0)", chain(10).first(11, 0), OUTSIDE));
    test(6, first, "k far away", () -> {
      for (int far : FAR_BELOW) due("first(" + far + ", 0)", chain(3).first(far, 0), OUTSIDE);
      for (int far : FAR_ABOVE) due("first(" + far + ", 0)", chain(3).first(far, 0), OUTSIDE);
    });
    test(6, first, "k is FEWEST, and one fewer: NOT", () -> {
      due("first(2, 0)", four().first(2, 0), 2);
      due("first(1, 0)", four().first(1, 0), NOT);
    });
    test(6, first, "k is as many as notes, and one more: NOT", () -> {
      due("first(4, 0)", four().first(4, 0), NONE);
      due("first(5, 0)", four().first(5, 0), NOT);
    });
    test(6, first, "whatever stands", () -> {
      PartedVoices x = four();
      x.follow(0, 3);
      x.follow(1, 2);
      dueFirst(x, 2, 2, 3, NONE, NONE);
      dueNext(x, 3, 2, NONE, NONE);
    });
    test(6, first, "of another k just before", () -> {
      PartedVoices x = chain(3);
      dueFirst(x, 3, NONE, NONE, NONE);
      dueFirst(x, 1, 1, 2, NONE);
      dueFirst(x, 2, NONE, 2, NONE);
    });
  }

  private static void voice() {
    String voice = "what = 0 its NOTES (how many), 1 the first, 2 the last, 3 the least PITCH, 4 the greatest, 5 RESTS, 6 what it costs, ENTRY, too."
        + " UNKNOWN, OUTSIDE.";
    test(7, voice, "the first voice", () -> due("voice(0, 1)", chord(10).voice(0, 1), 0));
    test(7, voice, "the last voice of ten", () -> due("voice(9, 1)", chord(10).voice(9, 1), 9));
    test(7, voice, "a voice behind ten", () -> due("voice(10, 1)", chord(10).voice(10, 1), UNKNOWN));
    test(7, voice, "a note there is, but no such voice", () -> due("voice(1, 0)", linked(10).voice(1, 0), UNKNOWN));
    test(7, voice, "a voice ahead of the first", () -> due("voice(-1, 0)", chord(10).voice(-1, 0), UNKNOWN));
    test(7, voice, "no voices", () -> due("voice(0, 0)", empty().voice(0, 0), UNKNOWN));
    test(7, voice, "voices far away", () -> {
      for (int far : FAR_BELOW) due("voice(" + far + ", 0)", chord(10).voice(far, 0), UNKNOWN);
      for (int far : FAR_ABOVE) due("voice(" + far + ", 0)", chord(10).voice(far, 0), UNKNOWN);
    });
    test(7, voice, "0 is the first", () -> due("voice(0, 0)", linked(10).voice(0, 0), 10));
    test(7, voice, "6 is the last", () -> due("voice(0, 6)", linked(10).voice(0, 6), 20));
    test(7, voice, "-1 is too small", () -> due("voice(0, -1)", chord(2).voice(0, -1), OUTSIDE));
    test(7, voice, "7 is too large", () -> due("voice(0, 7)", chord(2).voice(0, 7), OUTSIDE));
    test(7, voice, "far away", () -> {
      for (int far : FAR_BELOW) due("voice(0, " + far + ")", chord(2).voice(0, far), OUTSIDE);
      for (int far : FAR_ABOVE) due("voice(0, " + far + ")", chord(2).voice(0, far), OUTSIDE);
    });
    test(7, voice, "a voice of one note", () -> {
      PartedVoices x = withNotes(3, 32, 127);
      int[] wants = {1, 0, 0, 127, 127, 0, 20};
      for (int what = 0; what < 7; what++) due("voice(0, " + what + ")", x.voice(0, what), wants[what]);
    });
    test(7, voice, "a voice of one note of PITCH 0, ENTRY 0", () -> {
      PartedVoices x = withNotes(3, 32, 0);
      x.term(3, 0);
      int[] wants = {1, 0, 0, 0, 0, 0, 0};
      for (int what = 0; what < 7; what++) due("voice(0, " + what + ")", x.voice(0, what), wants[what]);
    });
    test(7, voice, "the least and the greatest PITCH at the first, amid, at the last", () -> {
      dueFromTo(withNotes(0, 1, 0, 1, 1, 60, 2, 1, 127));
      dueFromTo(withNotes(0, 1, 127, 1, 1, 60, 2, 1, 0));
      dueFromTo(withNotes(0, 1, 60, 1, 1, 0, 2, 1, 127, 3, 1, 60));
    });
    test(7, voice, "6: from the first line to the last", () -> {
      PartedVoices x = withNotes(0, 1, 60, 1, 1, 64, 2, 1, 60, 5, 1, 61);
      x.part(1);
      due("voice(0, 6)", x.voice(0, 6), 20 + 4 + 4 + 1 + 2);
    });
    test(7, voice, "those of another voice are not of it", () -> {
      PartedVoices x = withNotes(0, 1, 0, 0, 1, 60, 0, 1, 127, 1, 1, 61);
      x.follow(1, 3);
      due("voice(1, 3)", x.voice(1, 3), 60);
      due("voice(1, 4)", x.voice(1, 4), 61);
      due("voice(1, 6)", x.voice(1, 6), 21);
      due("voice(2, 6)", x.voice(2, 6), 20);
    });
  }

  private static void dueFromTo(PartedVoices x) {
    x.part(1);
    due("voice(0, 3)", x.voice(0, 3), 0);
    due("voice(0, 4)", x.voice(0, 4), 127);
  }

  private static void member() {
    String member = "The i-th NOTE of a VOICE; NONE: it has not so many. UNKNOWN (VOICE), OUTSIDE (i below 0).";
    test(8, member, "the first", () -> due("member(0, 0)", linked(10).member(0, 0), 0));
    test(8, member, "the last of ten", () -> due("member(0, 9)", linked(10).member(0, 9), 9));
    test(8, member, "one behind the last of ten", () -> due("member(0, 10)", linked(10).member(0, 10), NONE));
    test(8, member, "one behind the only one", () -> due("member(9, 1)", chord(10).member(9, 1), NONE));
    test(8, member, "far behind: it has not so many", () -> {
      for (int far : FAR_ABOVE) due("member(0, " + far + ")", linked(10).member(0, far), NONE);
    });
    test(8, member, "-1 is below 0", () -> due("member(0, -1)", linked(10).member(0, -1), OUTSIDE));
    test(8, member, "far below 0", () -> {
      for (int far : FAR_BELOW) due("member(0, " + far + ")", linked(10).member(0, far), OUTSIDE);
    });
    test(8, member, "the last voice", () -> due("member(9, 0)", chord(10).member(9, 0), 9));
    test(8, member, "a voice behind the last", () -> due("member(10, 0)", chord(10).member(10, 0), UNKNOWN));
    test(8, member, "a voice behind the only one", () -> due("member(1, 0)", linked(10).member(1, 0), UNKNOWN));
    test(8, member, "a voice ahead of the first", () -> due("member(-1, 0)", chord(10).member(-1, 0), UNKNOWN));
    test(8, member, "voices far away", () -> {
      for (int far : FAR_BELOW) due("member(" + far + ", 0)", chord(10).member(far, 0), UNKNOWN);
      for (int far : FAR_ABOVE) due("member(" + far + ", 0)", chord(10).member(far, 0), UNKNOWN);
    });
    test(8, member, "no voices", () -> due("member(0, 0)", empty().member(0, 0), UNKNOWN));
  }

  public static void main(String[] args) {
    newObject();
    told();
    at();
    cost();
    least();
    first();
    voice();
    member();
    end(1, 8);
  }
}
