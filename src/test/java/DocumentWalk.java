import java.io.IOException;
import java.lang.reflect.Method;
import java.lang.reflect.Modifier;
import java.nio.file.Files;
import java.nio.file.Path;
import java.util.ArrayList;
import java.util.List;
import java.util.TreeSet;
import java.util.function.Consumer;
import java.util.function.ToIntFunction;
import java.util.regex.Matcher;
import java.util.regex.Pattern;

/**
 * The document from its first line to its last: its sentences in their order, none left out, and those that hold
 * for any state each held against the class in many. The other tests take single sentences and their edges.
 */
public final class DocumentWalk extends Checks {
  private static final int[] GREATEST = {9, 9, 99, 999, 99};

  private static int place = 0;
  private static int promise = 0;

  /** Words that promise nothing which a call could break. */
  private static void pass(String words) {
    if (document().isEmpty()) return;
    int found = document().indexOf(words, place);
    if (found != place) complain("at '" + words + "' the walk has left the document, which goes on: '" + ahead() + "'");
    if (found >= 0) place = found + words.length();
    while (place < document().length() && document().charAt(place) == ' ') place++;
  }

  private static String ahead() {
    return document().substring(place, Math.min(place + 60, document().length()));
  }

  private static void once(String sentence, Runnable body) {
    pass(sentence);
    test(promise, sentence, "once", body);
  }

  private static void inAll(String sentence, Consumer<PartedVoices> holds) {
    pass(sentence);
    inAllAgain(sentence, holds);
  }

  /** For a sentence that the walk has passed, with more to see of it. */
  private static void inAllAgain(String sentence, Consumer<PartedVoices> holds) {
    for (int i = 0; i < Scenes.COUNT; i++) {
      int scene = i;
      test(promise, sentence, "scene " + scene, () -> holds.accept(Scenes.make(scene)));
    }
  }

  private static void promise(int number, String heading) {
    promise = number;
    pass("## Promise " + number + ": " + heading);
  }

  private static void dueTrue(String what, boolean holds) {
    if (!holds) complain("it does not hold that " + what);
  }

  private static void dueState(String name, PartedVoices x, int[] want) {
    dueRow(name, new Seen(x).row(), want);
  }

  /** A refusal is no count. */
  private static int some(String call, int answer) {
    if (answer <= UNKNOWN) complain(call + " answered " + answer + ", and is not refused");
    return answer;
  }

  private static String face(String sign) {
    StringBuilder found = new StringBuilder();
    Matcher calls = Pattern.compile("public int (\\w+)\\(([^)]*)\\);").matcher(sign);
    while (calls.find()) found.append(calls.group(1)).append(calls.group(2).isEmpty() ? 0 : calls.group(2).split(",").length).append(' ');
    return found.toString();
  }

  private static void whatItIs() {
    pass("# PartedVoices ## What it is Notes of one keyboard parted into voices: which note may follow which in one voice, "
        + "what it costs to leap and to rest, what it costs to enter; all notes in voices, each in one, none beginning while "
        + "the one ahead of it in its voice still sounds; the fewest voices that do, the least cost for each number of voices, "
        + "and for any, told by the first of all partings that cost so little; what each note costs, being there; notes shared "
        + "by two voices; lines that cross, and their mending by changing who follows whom; voices as they stand: their notes "
        + "in order, how low and high they go, how long they rest; voices joined, cut, parted anew; notes told one by one, "
        + "moved, changed, by draws; books of costs judged; undone; images to go on from.");
    inAll("An object is used for at most 512 calls after it has been made; what later calls answer is free.", x -> {
      for (int i = 0; i < 400; i++) some("told", x.told(i % 16));
    });
  }

  private static void publicFace() {
    pass("## The public face ```java public final class PartedVoices {");
    once("public static final int NONE = -1, UNKNOWN = -1000000001, OUTSIDE = -1000000002, NOT = -1000000003, FULL = -1000000004;", () ->
        dueRow("the constants", new int[] {PartedVoices.NONE, PartedVoices.UNKNOWN, PartedVoices.OUTSIDE, PartedVoices.NOT, PartedVoices.FULL},
            -1, -1000000001, -1000000002, -1000000003, -1000000004));
    once("public PartedVoices();", () -> due("constructors", PartedVoices.class.getConstructors().length, 1));
    String calls = "public int told(int what); public int at(int i, int what); public int cost(int a, int b); public int least(int k); "
        + "public int first(int k, int i); public int voice(int v, int what); public int member(int v, int i); "
        + "public int note(int on, int length, int pitch); public int take(int i); public int move(int i, int on, int length, int pitch); "
        + "public int share(int i); public int term(int which, int v); public int follow(int a, int b); public int cut(int a); "
        + "public int part(int k); public int mend(); public int clear(); public int drift(int n); public int undo(int n); "
        + "public int write(int k, int v); public int tear(); public int seed(int v); public int keep(int i); public int goBack(int i);";
    once(calls, () -> {
      TreeSet<String> want = new TreeSet<>(List.of(face(calls).split(" ")));
      TreeSet<String> got = new TreeSet<>();
      for (Method m : PartedVoices.class.getDeclaredMethods()) {
        if (!Modifier.isPrivate(m.getModifiers())) got.add(m.getName() + m.getParameterCount());
      }
      dueTrue("the face is " + want + ", for it is " + got, want.equals(got));
    });
    pass("} ```");
  }

  private static void refusals() {
    pass("## Terms Words in capitals are told where they come first. All numbers are whole.");
    inAll("What has a number has it from 0 on.", x -> {
      int notes = x.told(0), voices = x.told(1);
      due("at(-1, 0)", x.at(-1, 0), UNKNOWN);
      due("voice(-1, 0)", x.voice(-1, 0), UNKNOWN);
      for (int i = 0; i < notes; i++) some("at", x.at(i, 0));
      for (int v = 0; v < voices; v++) some("voice", x.voice(v, 0));
      due("the note behind the last", x.at(notes, 0), UNKNOWN);
      due("the voice behind the last", x.voice(voices, 0), UNKNOWN);
      dueRow("images", new int[] {x.keep(-1), x.keep(0), x.keep(1), x.keep(2)}, UNKNOWN, 1, 1, UNKNOWN);
    });
    once("NONE is -1.", () -> due("NONE", PartedVoices.NONE, -1));
    inAll("REFUSALS, of several the first in this order: UNKNOWN (a NOTE, VOICE, IMAGE that there is not), OUTSIDE (another number "
        + "out of its bounds), NOT (not now, as told), FULL.", DocumentWalk::refuseInOrder);
    inAll("They are far below all that is counted: -1000000001 and on.", x -> {
      for (int number : whole(x)) dueTrue(number + " is a count or UNKNOWN", number == UNKNOWN || number > -100000);
    });
    inAll("What is refused changes nothing.", x -> {
      int[] before = whole(x);
      refuseInOrder(x);
      refuseForNow(x);
      dueRow("what is so", whole(x), before);
    });
  }

  private static void refuseInOrder(PartedVoices x) {
    int notes = x.told(0), voices = x.told(1);
    due("at", x.at(notes, 99), UNKNOWN);
    due("cost", x.cost(notes, -1), UNKNOWN);
    due("first", x.first(11, notes), UNKNOWN);
    due("voice", x.voice(voices, 7), UNKNOWN);
    due("member", x.member(voices, -1), UNKNOWN);
    due("take", x.take(notes), UNKNOWN);
    due("move", x.move(notes, -1, 0, 128), UNKNOWN);
    due("share", x.share(notes), UNKNOWN);
    due("follow", x.follow(notes, notes), UNKNOWN);
    due("cut", x.cut(-1), UNKNOWN);
    due("keep", x.keep(2), UNKNOWN);
    due("goBack", x.goBack(2), UNKNOWN);
    due("told", x.told(16), OUTSIDE);
    due("least", x.least(11), OUTSIDE);
    due("note", x.note(100, 1, 0), OUTSIDE);
    due("term", x.term(5, 0), OUTSIDE);
    due("part", x.part(11), OUTSIDE);
    due("drift", x.drift(11), OUTSIDE);
    due("undo", x.undo(17), OUTSIDE);
    due("write", x.write(11, 0), OUTSIDE);
    due("seed", x.seed(-1), OUTSIDE);
    if (notes == 0) return;
    due("at", x.at(0, 8), OUTSIDE);
    due("first", x.first(11, 0), OUTSIDE);
    due("voice", x.voice(0, 7), OUTSIDE);
    due("member", x.member(0, -1), OUTSIDE);
    due("move", x.move(0, 0, 33, 0), OUTSIDE);
  }

  private static void refuseForNow(PartedVoices x) {
    int notes = x.told(0), held = x.told(14), fewest = x.told(3);
    if (notes > 0) due("follow(0, 0)", x.follow(0, 0), NOT);
    if (notes > 0) due("first of none", x.first(0, 0), NOT);
    if (notes > 0) due("part(fewest - 1)", x.part(fewest - 1 == 0 ? 0 : fewest - 1), NOT);
    if (notes < 10) due("part(notes + 1)", x.part(notes + 1), NOT);
    if (held < 16) due("undo(held + 1)", x.undo(held + 1), NOT);
    if (notes == 10) due("note", x.note(0, 1, 0), FULL);
    if (notes == 10) due("share", x.share(0), FULL);
  }

  private static void notes() {
    pass("======== 1");
    inAll("NOTES (10 at most): each has ON (0 .. 99), LENGTH (1 .. 32) and PITCH (0 .. 127); OFF is ON and LENGTH.", x -> {
      int notes = x.told(0);
      int[][] wrong = {{-1, 1, 0}, {100, 1, 0}, {0, 0, 0}, {0, 33, 0}, {0, 1, -1}, {0, 1, 128}};
      for (int[] n : wrong) due("note", x.note(n[0], n[1], n[2]), OUTSIDE);
      int[][] edges = {{0, 1, 0}, {99, 32, 127}, {99, 1, 0}, {0, 32, 127}};
      for (int i = notes; i < 10; i++) {
        int[] n = edges[i % 4];
        int number = some("note", x.note(n[0], n[1], n[2]));
        dueRow("the note", new int[] {x.at(number, 0), x.at(number, 1), x.at(number, 2)}, n[0], n[0] + n[1], n[2]);
      }
      due("told(0)", x.told(0), 10);
      due("note", x.note(0, 1, 0), FULL);
    });
    inAll("They are kept in the order of ON, then PITCH, then LENGTH, then as they came, and numbered so.", x -> {
      Seen now = new Seen(x);
      for (int i = 0; i + 1 < now.count; i++) dueTrue("note " + i + " is ahead of the next", inOrder(now, i));
      for (int i = 0; i < now.count && now.count < 10; i++) {
        int came = x.share(i);
        int last = i;
        while (last + 1 < now.count && now.sameOn(i, last + 1)) last++;
        due("the number of one that came later", came, last + 1);
        x.undo(1);
      }
    });
    inAll("TERMS: STEP (0 .. 9; 1 at first), GAP (0 .. 9; 1), LEAP (0 .. 99; 10), ENTRY (0 .. 999; 20), LONGEST (0 .. 99; 16).", x -> {
      dueRow("at first", new Seen(empty()).terms, 1, 1, 10, 20, 16);
      for (int which = 0; which < 5; which++) {
        int was = x.told(7 + which);
        due("too small", x.term(which, -1), OUTSIDE);
        due("too large", x.term(which, GREATEST[which] + 1), OUTSIDE);
        due("the least", x.term(which, 0), was);
        due("the greatest", x.term(which, GREATEST[which]), 0);
        due("told", x.told(7 + which), GREATEST[which]);
      }
    });
  }

  private static boolean inOrder(Seen now, int i) {
    if (now.on[i] != now.on[i + 1]) return now.on[i] < now.on[i + 1];
    if (now.pitch[i] != now.pitch[i + 1]) return now.pitch[i] < now.pitch[i + 1];
    return now.length(i) <= now.length(i + 1);
  }

  private static void following() {
    pass("```text");
    inAll("NOTE b MAY FOLLOW a, if ON of b is OFF of a or more, by LONGEST at most.", x -> {
      Seen now = new Seen(x);
      for (int a = 0; a < now.count; a++) {
        int may = 0;
        for (int b = 0; b < now.count; b++) {
          due("cost(" + a + ", " + b + ") is NONE", x.cost(a, b) == NONE ? 1 : 0, now.mayFollow(a, b) ? 0 : 1);
          if (now.mayFollow(a, b)) may++;
        }
        due("at(" + a + ", 7)", x.at(a, 7), may);
      }
    });
    inAll("TO FOLLOW costs STEP for each by which their PITCHES are apart, GAP for each by which ON of b is more than OFF of a, and LEAP, "
        + "if their PITCHES are more than 12 apart.", x -> {
      Seen now = new Seen(x);
      for (int a = 0; a < now.count; a++) {
        for (int b = 0; b < now.count; b++) due("cost(" + a + ", " + b + ")", x.cost(a, b), now.cost(a, b));
      }
    });
    inAll("NEXT of a NOTE: one that MAY FOLLOW it, or NONE; no NOTE is NEXT of two.", x -> {
      dueParting(new Seen(x), nexts(x));
      for (int i = 0; i < 20; i++) x.follow(i * 7 % 10, i * 3 % 10);
      dueParting(new Seen(x), nexts(x));
      x.mend();
      dueParting(new Seen(x), nexts(x));
    });
    inAll("(Whenever a NOTE comes, goes, is moved, or a TERM is told, also if it is as it was, NEXT of all are NONE.)", x -> {
      if (x.told(0) < 10) dueLoose(x, "note", y -> y.note(5, 5, 55));
      if (x.told(0) < 10) dueLoose(x, "share", y -> y.share(0));
      if (x.told(0) < 10) dueLoose(x, "drift", y -> y.drift(1));
      dueLoose(x, "move", y -> y.move(0, y.at(0, 0), y.at(0, 1) - y.at(0, 0), y.at(0, 2)));
      dueLoose(x, "term", y -> y.term(2, y.told(9)));
      dueLoose(x, "take", y -> y.take(y.told(0) - 1));
    });
    inAll("VOICES: rows of NOTES, each the NEXT of the one ahead; numbered by their first NOTES.", x -> {
      Seen now = new Seen(x);
      due("told(1)", x.told(1), now.voices());
      for (int v = 0; v < now.voices(); v++) {
        int[] row = now.voice(v);
        for (int i = 0; i < row.length; i++) due("member(" + v + ", " + i + ")", x.member(v, i), row[i]);
        for (int note : row) due("at(" + note + ", 5)", x.at(note, 5), v);
      }
    });
    inAll("COST: ENTRY for each VOICE, and what it costs TO FOLLOW wherever there is a NEXT.", x ->
        due("told(2)", x.told(2), new Seen(x).costOfNexts()));
    pass("```");
  }

  private static void dueLoose(PartedVoices x, String name, ToIntFunction<PartedVoices> deed) {
    x.part(x.told(3));
    some(name, deed.applyAsInt(x));
    for (int next : nexts(x)) due("NEXT after " + name, next, NONE);
  }

  /** How many voices it has. */
  private static int dueParting(Seen now, int[] next) {
    int voices = now.count;
    TreeSet<Integer> led = new TreeSet<>();
    for (int i = 0; i < next.length; i++) {
      if (next[i] == NONE) continue;
      voices--;
      dueTrue("note " + next[i] + " is NEXT of one", led.add(next[i]));
      dueTrue("note " + next[i] + " may follow " + i, next[i] >= 0 && next[i] < now.count && now.mayFollow(i, next[i]));
    }
    return voices;
  }

  private static int[] firsts(PartedVoices x, int k, int count) {
    int[] row = new int[count];
    for (int i = 0; i < count; i++) row[i] = x.first(k, i);
    return row;
  }

  private static void partings() {
    pass("======== 2");
    inAll("A PARTING: a NEXT of all NOTES as above.", x -> {
      Seen now = new Seen(x);
      for (int k = 0; k <= 10; k++) {
        if (x.least(k) != NONE) due("voices", dueParting(now, firsts(x, k, now.count)), k);
      }
    });
    inAll("FEWEST: how few VOICES a PARTING can have.", x -> due("told(3)", x.told(3), new AllPartings(new Seen(x)).fewest()));
    inAll("LEAST of k VOICES: the least COST of a PARTING with just k; NONE: there is none.", x ->
        dueLeast(x, new AllPartings(new Seen(x)).least));
    inAll("CHEAPEST: the k of the least LEAST, of like ones the least k.", x -> {
      due("told(4)", x.told(4), new AllPartings(new Seen(x)).cheapest());
      x.term(3, 0);
      due("told(4), entries being free", x.told(4), new AllPartings(new Seen(x)).cheapest());
      x.term(0, 0);
      x.term(1, 0);
      x.term(2, 0);
      due("told(4), all being free", x.told(4), x.told(3));
    });
    inAll("FIRST of k: of all PARTINGS with k VOICES that cost LEAST that whose NEXT of NOTE 0 is the least (NONE is the least), "
        + "then of NOTE 1, and so on.", x -> {
      dueFirsts(x);
      x.term(0, 0);
      x.term(1, 0);
      dueFirsts(x);
    });
    pass("```text");
    inAll("PRICE of a NOTE: LEAST of CHEAPEST, less what that would be, were the NOTE not there.", x -> {
      int with = x.told(5);
      for (int i = 0; i < x.told(0); i++) {
        int price = x.at(i, 6);
        x.take(i);
        due("at(" + i + ", 6)", price, with - x.told(5));
        x.undo(1);
      }
    });
    inAll("LINES: from a NOTE to its NEXT.", x -> {
      Seen now = new Seen(x);
      for (int i = 0; i < now.count; i++) due("at(" + i + ", 4)", x.at(i, 4), now.ahead(i));
    });
    inAll("Two LINES CROSS, a to b and c to d: ON of a is less than ON of d, ON of c less than ON of b, and PITCH of a is less than that "
        + "of c, but PITCH of b more than that of d, or the other way round.", x -> due("told(6)", x.told(6), new Seen(x).crossings()));
    inAll("MENDED: the first two NOTES a, c (least a, then least c more than a), whose LINES CROSS, and of which a MAY be followed by the "
        + "NEXT of c, and c by the NEXT of a, change their NEXT; again, till there are none such, 50 times at most.", x -> {
      Seen now = new Seen(x);
      due("mend()", x.mend(), now.mend());
      dueNext(x, now.next);
    });
    pass("```");
  }

  private static void dueFirsts(PartedVoices x) {
    AllPartings all = new AllPartings(new Seen(x));
    int count = x.told(0);
    for (int k = 0; k <= 10; k++) {
      for (int i = 0; i < count; i++) due("first(" + k + ", " + i + ")", x.first(k, i), all.first[k] == null ? NOT : all.first[k][i]);
    }
  }

  private static void asked() {
    pass("======== 3");
    inAll("ASKED, nothing changes by it.", x -> {
      int[] before = whole(x);
      for (int i = 0; i < 10; i++) {
        x.told(i);
        x.cost(i, 9 - i);
        x.least(i);
        x.first(x.told(3), i);
        x.voice(i, i % 7);
        x.member(i, i % 2);
      }
      dueRow("what is so", whole(x), before);
    });
    inAll("RESTS of a VOICE: all by which ON of a NOTE in it is more than OFF of the one ahead, together.", x -> {
      Seen now = new Seen(x);
      for (int v = 0; v < now.voices(); v++) {
        int[] row = now.voice(v);
        int rests = 0;
        for (int i = 1; i < row.length; i++) rests += now.on[row[i]] - now.off[row[i - 1]];
        due("voice(" + v + ", 5)", x.voice(v, 5), rests);
      }
    });
    pass("```text");
    inAll("THE BOOK (20 at most) tells LEAST of k VOICES (or NONE): WRONG: the first that is otherwise now; NONE.", x -> {
      x.tear();
      for (int k = 0; k <= 10; k++) x.write(k, x.least(k));
      due("told(13)", x.told(13), NONE);
      for (int i = 11; i < 20; i++) due("write", x.write(i - 10, i == 17 ? -2 : x.least(i - 10)), i + 1);
      due("write", x.write(0, 0), FULL);
      due("told(13)", x.told(13), 17);
      int[] was = new AllPartings(new Seen(x)).least;
      x.term(3, x.told(10) == 999 ? 0 : x.told(10) + 1);
      int[] is = new AllPartings(new Seen(x)).least;
      int wrong = 0;
      while (wrong < 11 && was[wrong] == is[wrong]) wrong++;
      due("told(13)", x.told(13), wrong == 11 ? 17 : wrong);
    });
    inAll("BY DRAWS: THE SEED (0 at first: each DRAW it becomes it times 1103515245 and 12345, left over by 2 to the 31; the DRAW of n is "
        + "it / 65536, left over by n): n times, while there is room: DRAWS of 24 (ON), of 6 (LENGTH less 1), of 25 (PITCH less 48): "
        + "this NOTE comes.", DocumentWalk::dueDrawn);
    String undone = "UNDONE: the latest deeds (note(), take(), move(), share(), term(), follow(), cut(), part(), mend(), clear(), each NOTE "
        + "BY DRAWS: all that were not refused, be it that they changed nothing) since the IMAGE (16 at most are kept): NOTES, TERMS, NEXT "
        + "are as ahead of them; THE SEED, THE BOOK stay.";
    inAll(undone, x -> {
      dueUndone(x, y -> y.note(9, 9, 99));
      dueUndone(x, y -> y.take(0));
      dueUndone(x, y -> y.move(y.told(0) - 1, 0, 1, 0));
    });
    inAllAgain(undone, x -> {
      dueUndone(x, y -> y.share(0));
      dueUndone(x, y -> y.term(4, y.told(11)));
      dueUndone(x, y -> y.follow(0, y.told(0) - 1));
    });
    inAllAgain(undone, x -> {
      dueUndone(x, y -> y.cut(0));
      dueUndone(x, y -> y.part(NONE));
      dueUndone(x, PartedVoices::mend);
    });
    inAllAgain(undone, x -> {
      dueUndone(x, PartedVoices::clear);
      if (x.told(0) < 10) dueUndone(x, y -> y.drift(1));
    });
    inAll("IMAGES 0, 1 keep NOTES, TERMS, NEXT, THE SEED.", x -> {
      int[] zero = new Seen(x).row();
      int seed = x.told(15);
      x.keep(0);
      x.seed(77);
      x.drift(3);
      x.term(0, 9);
      x.part(x.told(3));
      int[] one = new Seen(x).row();
      int seedOfOne = x.told(15);
      x.keep(1);
      x.clear();
      x.seed(1);
      x.goBack(0);
      dueState("image 0", x, zero);
      due("its seed", x.told(15), seed);
      x.goBack(1);
      dueState("image 1", x, one);
      due("its seed", x.told(15), seedOfOne);
    });
    pass("```");
  }

  private static void dueDrawn(PartedVoices x) {
    due("the seed at first", empty().told(15), 0);
    List<String> want = new ArrayList<>();
    Seen before = new Seen(x);
    for (int i = 0; i < before.count; i++) want.add(before.on[i] + " " + before.off[i] + " " + before.pitch[i]);
    long seed = x.told(15);
    for (int time = 0; time < 6 && want.size() < 10; time++) {
      seed = (seed * 1103515245L + 12345L) % 2147483648L;
      long on = seed / 65536 % 24;
      seed = (seed * 1103515245L + 12345L) % 2147483648L;
      long length = seed / 65536 % 6 + 1;
      seed = (seed * 1103515245L + 12345L) % 2147483648L;
      long pitch = seed / 65536 % 25 + 48;
      want.add(on + " " + (on + length) + " " + pitch);
    }
    due("drift(6)", x.drift(6), want.size());
    due("told(15)", x.told(15), (int) seed);
    Seen after = new Seen(x);
    for (int i = 0; i < after.count; i++) {
      String note = after.on[i] + " " + after.off[i] + " " + after.pitch[i];
      dueTrue("note " + note + " was drawn or was there", want.remove(note));
    }
    dueTrue("all drawn are there but not " + want, want.isEmpty());
  }

  private static void dueUndone(PartedVoices x, ToIntFunction<PartedVoices> deed) {
    int[] before = new Seen(x).row();
    int held = x.told(14), book = x.told(12);
    if (deed.applyAsInt(x) <= UNKNOWN) {
      due("what can be undone after a refusal", x.told(14), held);
      return;
    }
    int seed = x.told(15);
    due("what can be undone after it", x.told(14), Math.min(held + 1, 16));
    due("undo(1)", x.undo(1), (before.length - 5) / 4);
    dueState("what is so then", x, before);
    due("what can be undone then", x.told(14), Math.min(held, 15));
    due("the seed then", x.told(15), seed);
    due("the book then", x.told(12), book);
  }

  private static void groups() {
    group("`told`, `at`, `cost`, `least`, `first`, `voice`, `member`", "what is so");
    group("`note`, `take`, `move`, `share`, `term`, `follow`, `cut`, `part`, `mend`, `clear`, `drift`, `undo`", "deeds");
    group("`write`, `tear`", "the book");
    group("`seed`, `keep`, `goBack`", "images");
  }

  /** In the source the calls stand one behind the other, and this stands ahead of them. */
  private static void group(String calls, String says) {
    once("Ahead of the calls " + calls + " the interface says: ---- " + says + ".", () -> {
      String source = source();
      int at = source.indexOf("// ---- " + says + "\n");
      dueTrue("the source says it", at >= 0);
      int end = source.indexOf("// ----", at + 1);
      for (String call : calls.replace("`", "").split(", ")) {
        int found = source.indexOf("public int " + call + "(", Math.max(0, at));
        dueTrue(call + " stands there", found > at && found < end);
        at = found;
      }
    });
  }

  private static String source() {
    try {
      return Files.readString(Path.of("src/main/java/PartedVoices.java"));
    } catch (IOException gone) {
      complain("there is no source: " + gone);
      return "";
    }
  }

  private static void promisesOfAsking() {
    promise(1, "A new object");
    once("`PartedVoices()`: No NOTES.", () -> {
      PartedVoices x = empty();
      for (int what = 0; what < 16; what++) due("told(" + what + ")", x.told(what), new int[] {0, 0, 0, 0, 0, 0, 0, 1, 1, 10, 20, 16, 0, -1, 0, 0}[what]);
    });
    promise(2, "told");
    inAll("`int told(int what)`: 0 NOTES, 1 VOICES, 2 COST, 3 FEWEST, 4 CHEAPEST, 5 LEAST of this (3 to 5: 0, if there are no NOTES), "
        + "6 pairs of LINES that CROSS, 7 to 11 STEP, GAP, LEAP, ENTRY, LONGEST, 12 entries of THE BOOK, 13 WRONG, 14 how many can be undone, "
        + "15 THE SEED. OUTSIDE.", DocumentWalk::dueTold);
    promise(3, "at");
    inAll("`int at(int i, int what)`: Of a NOTE: what = 0 ON, 1 OFF, 2 PITCH, 3 NEXT, 4 the one whose NEXT it is (NONE), 5 its VOICE, 6 PRICE, "
        + "7 how many MAY FOLLOW it. UNKNOWN, OUTSIDE.", x -> {
      int notes = x.told(0);
      for (int i = 0; i < notes; i++) {
        int next = x.at(i, 3);
        if (next != NONE) due("at(" + next + ", 4)", x.at(next, 4), i);
        if (next != NONE) due("at(" + next + ", 5)", x.at(next, 5), x.at(i, 5));
        due("at(i, -1)", x.at(i, -1), OUTSIDE);
        due("at(i, 8)", x.at(i, 8), OUTSIDE);
      }
      for (int what = 0; what < 8; what++) due("at(" + notes + ", " + what + ")", x.at(notes, what), UNKNOWN);
    });
    promise(4, "cost");
    inAll("`int cost(int a, int b)`: What it costs TO FOLLOW a, to b; NONE: it MAY not. UNKNOWN.", x -> {
      int notes = x.told(0);
      for (int a = 0; a < notes; a++) {
        due("cost of itself", x.cost(a, a), NONE);
        due("cost(a, notes)", x.cost(a, notes), UNKNOWN);
        due("cost(notes, a)", x.cost(notes, a), UNKNOWN);
        for (int b = 0; b < a; b++) dueTrue("one of two at most may follow", x.cost(a, b) == NONE || x.cost(b, a) == NONE);
      }
    });
    promise(5, "least");
    inAll("`int least(int k)`: LEAST of k (0 .. 10) VOICES. OUTSIDE.", x -> {
      int notes = x.told(0);
      due("each note alone", x.least(notes), notes * x.told(10));
      due("none", x.least(0), notes == 0 ? 0 : NONE);
      dueRow("out of the bounds", new int[] {x.least(-1), x.least(11)}, OUTSIDE, OUTSIDE);
    });
    promise(6, "first");
    inAll("`int first(int k, int i)`: NEXT of NOTE i in FIRST of k VOICES. UNKNOWN, OUTSIDE (k 0 .. 10), NOT: there is no PARTING with k.", x -> {
      int notes = x.told(0);
      for (int i = 0; i < notes; i++) {
        due("each note alone", x.first(notes, i), NONE);
        due("no voice", x.first(0, i), NOT);
        dueRow("out of the bounds", new int[] {x.first(-1, i), x.first(11, i)}, OUTSIDE, OUTSIDE);
      }
      for (int k = -1; k <= 11; k++) due("no such note", x.first(k, notes), UNKNOWN);
    });
  }

  private static void dueTold(PartedVoices x) {
    Seen now = new Seen(x);
    AllPartings all = new AllPartings(now);
    due("told(0)", x.told(0), now.count);
    due("told(1)", x.told(1), now.voices());
    due("told(2)", x.told(2), now.costOfNexts());
    due("told(3)", x.told(3), all.fewest());
    due("told(4)", x.told(4), all.cheapest());
    due("told(5)", x.told(5), all.least[all.cheapest()]);
    due("told(6)", x.told(6), now.crossings());
    due("told(12)", x.told(12), x.write(0, 0) - 1);
    x.tear();
    x.write(now.count, now.terms[Seen.ENTRY] * now.count);
    due("told(13)", x.told(13), NONE);
    dueRow("out of the bounds", new int[] {x.told(-1), x.told(16)}, OUTSIDE, OUTSIDE);
    int held = x.told(14);
    if (held < 16) due("undo", x.undo(held + 1), NOT);
    if (held > 0) some("undo", x.undo(held));
    due("told(14)", x.told(14), 0);
    due("told(15)", x.told(15), x.seed(3));
    if (x.clear() > 0) dueRow("without notes", new int[] {x.told(3), x.told(4), x.told(5)}, 0, 0, 0);
  }

  private static void promisesOfVoices() {
    promise(7, "voice");
    inAll("`int voice(int v, int what)`: Of a VOICE: what = 0 its NOTES (how many), 1 the first, 2 the last, 3 the least PITCH, 4 the greatest, "
        + "5 RESTS, 6 what it costs, ENTRY, too. UNKNOWN, OUTSIDE.", x -> {
      Seen now = new Seen(x);
      int sum = 0;
      for (int v = 0; v < now.voices(); v++) {
        int[] row = now.voice(v);
        int low = 127, high = 0;
        for (int note : row) {
          low = Math.min(low, now.pitch[note]);
          high = Math.max(high, now.pitch[note]);
        }
        dueRow("the voice", new int[] {x.voice(v, 0), x.voice(v, 1), x.voice(v, 2), x.voice(v, 3), x.voice(v, 4)},
            row.length, row[0], row[row.length - 1], low, high);
        sum += x.voice(v, 6);
        dueRow("out of the bounds", new int[] {x.voice(v, -1), x.voice(v, 7)}, OUTSIDE, OUTSIDE);
      }
      due("what all cost together", sum, now.costOfNexts());
      for (int what = -1; what < 8; what++) due("no such voice", x.voice(now.voices(), what), UNKNOWN);
    });
    promise(8, "member");
    inAll("`int member(int v, int i)`: The i-th NOTE of a VOICE; NONE: it has not so many. UNKNOWN (VOICE), OUTSIDE (i below 0).", x -> {
      int voices = x.told(1);
      for (int v = 0; v < voices; v++) {
        int size = x.voice(v, 0);
        due("the first", x.member(v, 0), x.voice(v, 1));
        due("the last", x.member(v, size - 1), x.voice(v, 2));
        dueRow("no more", new int[] {x.member(v, size), x.member(v, 10), x.member(v, MAX)}, NONE, NONE, NONE);
        dueRow("out of the bounds", new int[] {x.member(v, -1), x.member(v, MIN)}, OUTSIDE, OUTSIDE);
      }
      for (int i = -1; i < 2; i++) due("no such voice", x.member(voices, i), UNKNOWN);
    });
  }

  private static void promisesOfNotes() {
    promise(9, "note");
    inAll("`int note(int on, int length, int pitch)`: A NOTE comes: its number. OUTSIDE, FULL (10).", x -> {
      int notes = x.told(0);
      int number = x.note(7, 3, 51);
      if (notes == 10) due("note", number, FULL);
      else dueRow("the note", new int[] {x.at(number, 0), x.at(number, 1), x.at(number, 2), x.told(0)}, 7, 10, 51, notes + 1);
      due("note", x.note(7, 3, 128), OUTSIDE);
    });
    promise(10, "take");
    inAll("`int take(int i)`: A NOTE goes: how many are left. UNKNOWN.", x -> {
      for (int notes = x.told(0); notes > 0; notes--) {
        int gone = notes / 2;
        int[] behind = gone + 1 < notes ? new int[] {x.at(gone + 1, 0), x.at(gone + 1, 1), x.at(gone + 1, 2)} : null;
        due("take", x.take(gone), notes - 1);
        if (behind != null) dueRow("the one behind it", new int[] {x.at(gone, 0), x.at(gone, 1), x.at(gone, 2)}, behind);
      }
      due("take", x.take(0), UNKNOWN);
    });
    promise(11, "move");
    inAll("`int move(int i, int on, int length, int pitch)`: A NOTE has this ON, LENGTH, PITCH (it goes, and comes anew): its number. "
        + "UNKNOWN, OUTSIDE.", x -> {
      int notes = x.told(0);
      for (int i = 0; i < Math.min(notes, 3); i++) {
        x.take(i);
        int number = x.note(8, 2, 53);
        int[] want = new Seen(x).row();
        x.undo(2);
        due("move", x.move(i, 8, 2, 53), number);
        dueState("moved, or gone and come anew", x, want);
      }
      due("move", x.move(notes, 8, 2, 53), UNKNOWN);
    });
    promise(12, "share");
    inAll("`int share(int i)`: A NOTE like NOTE i comes: its number. UNKNOWN, FULL (10).", x -> {
      int notes = x.told(0);
      for (int i = 0; i < notes && x.told(0) < 10; i++) {
        int[] like = {x.at(i, 0), x.at(i, 1), x.at(i, 2)};
        int number = some("share", x.share(i));
        dueTrue("it is behind the one that it is like", number > i);
        dueRow("the note", new int[] {x.at(number, 0), x.at(number, 1), x.at(number, 2)}, like);
      }
      due("share", x.share(x.told(0)), UNKNOWN);
      if (x.told(0) == 10) due("share", x.share(0), FULL);
    });
    promise(13, "term");
    inAll("`int term(int which, int v)`: A TERM (0 STEP, 1 GAP, 2 LEAP, 3 ENTRY, 4 LONGEST) is v: what it was. OUTSIDE.", x -> {
      int[] terms = new Seen(x).terms.clone();
      for (int which = 0; which < 5; which++) {
        due("term", x.term(which, 4 + which), terms[which]);
        terms[which] = 4 + which;
        dueRow("the terms", new Seen(x).terms, terms);
      }
      dueRow("out of the bounds", new int[] {x.term(-1, 0), x.term(5, 0)}, OUTSIDE, OUTSIDE);
    });
  }

  private static void promisesOfNexts() {
    promise(14, "follow");
    inAll("`int follow(int a, int b)`: NEXT of a is b (that of whom b was the NEXT is NONE then): what it costs TO FOLLOW. UNKNOWN, "
        + "NOT: b MAY not FOLLOW a.", x -> {
      Seen now = new Seen(x);
      for (int a = 0; a < now.count; a++) {
        for (int b = now.count - 1; b >= 0; b -= 2) {
          if (now.mayFollow(a, b) && now.ahead(b) != NONE) now.next[now.ahead(b)] = NONE;
          if (now.mayFollow(a, b)) now.next[a] = b;
          due("follow(" + a + ", " + b + ")", x.follow(a, b), now.mayFollow(a, b) ? now.cost(a, b) : NOT);
        }
        dueNext(x, now.next);
      }
      dueRow("no such note", new int[] {x.follow(0, now.count), x.follow(now.count, 0)}, UNKNOWN, UNKNOWN);
    });
    promise(15, "cut");
    inAll("`int cut(int a)`: NEXT of a NOTE is NONE: what it was. UNKNOWN.", x -> {
      int[] next = nexts(x);
      for (int i = 0; i < next.length; i++) {
        due("cut", x.cut(i), next[i]);
        next[i] = NONE;
        dueNext(x, next);
      }
      due("cut", x.cut(next.length), UNKNOWN);
    });
    promise(16, "part");
    inAll("`int part(int k)`: NEXT of all are FIRST of k VOICES (k NONE: of CHEAPEST): COST. OUTSIDE (NONE, 0 .. 10), NOT: there is no PARTING "
        + "with k.", x -> {
      int notes = x.told(0);
      for (int k = 0; k <= 10; k++) {
        int least = x.least(k);
        due("part(" + k + ")", x.part(k), least == NONE ? NOT : least);
        if (least == NONE) continue;
        dueNext(x, firsts(x, k, notes));
        dueRow("voices and cost", new int[] {x.told(1), x.told(2)}, k, least);
      }
      due("part(NONE)", x.part(NONE), x.told(5));
      dueNext(x, firsts(x, x.told(4), notes));
      dueRow("out of the bounds", new int[] {x.part(-2), x.part(11)}, OUTSIDE, OUTSIDE);
    });
    promise(17, "mend");
    inAll("`int mend()`: MENDED: how often.", x -> {
      Seen now = new Seen(x);
      due("mend()", x.mend(), now.mend());
      due("mend() again", x.mend(), 0);
      dueNext(x, now.next);
    });
    promise(18, "clear");
    inAll("`int clear()`: No NOTES any more: how many there were.", x -> {
      int notes = x.told(0);
      int[] terms = new Seen(x).terms;
      due("clear()", x.clear(), notes);
      dueRow("notes and voices", new int[] {x.told(0), x.told(1), x.told(2), x.clear()}, 0, 0, 0, 0);
      dueRow("the terms stay", new Seen(x).terms, terms);
    });
  }

  private static void promisesOfDraws() {
    promise(19, "drift");
    inAll("`int drift(int n)`: n times BY DRAWS (1 .. 10): NOTES. OUTSIDE.", x -> {
      int notes = x.told(0), held = x.told(14);
      int come = Math.min(3, 10 - notes);
      due("drift(3)", x.drift(3), notes + come);
      due("told(14)", x.told(14), Math.min(16, held + come));
      dueRow("out of the bounds", new int[] {x.drift(0), x.drift(11), x.drift(-1)}, OUTSIDE, OUTSIDE, OUTSIDE);
      due("drift(10)", x.drift(10), 10);
      int seed = x.told(15);
      due("drift(10) without room", x.drift(10), 10);
      due("the seed then", x.told(15), seed);
    });
    promise(20, "undo");
    inAll("`int undo(int n)`: The n latest (1 .. 16) are undone: NOTES. OUTSIDE, NOT: not so many.", x -> {
      x.keep(0);
      int[] first = new Seen(x).row();
      x.term(0, 3);
      x.clear();
      int[] third = new Seen(x).row();
      x.drift(2);
      x.part(NONE);
      dueRow("refused", new int[] {x.undo(0), x.undo(17), x.undo(6)}, OUTSIDE, OUTSIDE, NOT);
      due("undo(3)", x.undo(3), 0);
      dueState("three undone", x, third);
      due("undo(2)", x.undo(2), (first.length - 5) / 4);
      dueState("all undone", x, first);
      due("undo(1)", x.undo(1), NOT);
    });
  }

  private static void promisesOfBookAndImages() {
    promise(21, "write");
    inAll("`int write(int k, int v)`: An entry behind THE BOOK (LEAST of k, 0 .. 10, is v, any): how many. OUTSIDE, FULL (20).", x -> {
      for (int size = x.told(12); size < 20; size++) due("write", x.write(size % 11, size % 2 == 0 ? MIN : MAX), size + 1);
      dueRow("refused", new int[] {x.write(0, 0), x.write(-1, 0), x.write(11, 0)}, FULL, OUTSIDE, OUTSIDE);
    });
    promise(22, "tear");
    inAll("`int tear()`: No BOOK: how much it had.", x -> {
      x.write(5, 5);
      int had = x.told(12);
      dueRow("tear", new int[] {x.tear(), x.told(12), x.told(13), x.tear()}, had, 0, NONE, 0);
    });
    promise(23, "seed");
    inAll("`int seed(int v)`: THE SEED becomes v (0 .. 2147483647): what it was. OUTSIDE.", x -> {
      int was = x.told(15);
      dueRow("seed", new int[] {x.seed(2147483647), x.seed(0), x.seed(-1), x.seed(MIN), x.told(15)}, was, 2147483647, OUTSIDE, OUTSIDE, 0);
    });
    promise(24, "keep");
    inAll("`int keep(int i)`: IMAGE i becomes what is so (nothing can be undone then): 1. UNKNOWN.", x -> {
      x.clear();
      dueRow("keep", new int[] {x.keep(-1), x.keep(2), x.keep(1), x.told(14), x.undo(1)}, UNKNOWN, UNKNOWN, 1, 0, NOT);
      x.drift(2);
      dueRow("kept again", new int[] {x.keep(1), x.clear(), x.goBack(1), x.told(0)}, 1, 2, 1, 2);
    });
    promise(25, "goBack");
    inAll("`int goBack(int i)`: What is so becomes IMAGE i (nothing can be undone then): 1. UNKNOWN, NOT: it was not kept.", x -> {
      int book = x.told(12);
      x.keep(0);
      int[] kept = new Seen(x).row();
      x.term(3, 3);
      x.clear();
      dueRow("goBack", new int[] {x.goBack(0), x.told(14), x.undo(1), x.goBack(-1), x.goBack(2), x.told(12)}, 1, 0, NOT, UNKNOWN, UNKNOWN, book);
      dueState("what is so then", x, kept);
      due("goBack(1) of a new one", empty().goBack(1), NOT);
    });
    pass("## Not promised How the state is held inside the object is free, as are the speed of each call, the text of toString and the behaviour "
        + "of equals and hashCode. Use of one object from several threads at once is not promised to be safe. Nothing is promised beyond the "
        + "answers and state changes described above, and nothing about an object after its 512th call.");
  }

  public static void main(String[] args) {
    whatItIs();
    publicFace();
    refusals();
    notes();
    following();
    partings();
    asked();
    groups();
    promisesOfAsking();
    promisesOfVoices();
    promisesOfNotes();
    promisesOfNexts();
    promisesOfDraws();
    promisesOfBookAndImages();
    if (place < document().length()) complain("the walk ends ahead of '" + ahead() + "'");
    end(1, 25);
  }
}
