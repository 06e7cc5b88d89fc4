import java.io.IOException;
import java.nio.file.Files;
import java.nio.file.Path;
import java.util.TreeMap;

/** What the tests by sentences share: each of them names the sentence of the document that it watches. */
abstract class Checks {
  static final int NONE = -1, UNKNOWN = -1000000001, OUTSIDE = -1000000002, NOT = -1000000003, FULL = -1000000004;
  static final int MIN = Integer.MIN_VALUE, MAX = Integer.MAX_VALUE;
  /** Numbers out of every bound but those of seed() and of what write() tells; some would wrap around, were they multiplied. */
  static final int[] FAR_BELOW = {MIN, MIN + 1, UNKNOWN, OUTSIDE, NOT, FULL, -(1 << 28), -65536, -256};
  static final int[] FAR_ABOVE = {MAX, MAX - 1, 1 << 30, 1 << 28, 65536, 4096, 1000};

  private static final Path DOCUMENT = Path.of("../shared/DOC.md");

  private static final TreeMap<Integer, Integer> testsOfPromise = new TreeMap<>();
  private static final String document = readDocument();
  private static String running = "";
  private static int tests = 0;
  private static int wrong = 0;

  /** In one line; empty where it is not there. */
  static String document() {
    return document;
  }

  static void complain(String what) {
    wrong++;
    System.out.println(running + ": " + what);
  }

  /** Promise 0 stands for the terms ahead of the promises. */
  static void test(int promise, String sentence, String edge, Runnable body) {
    tests++;
    testsOfPromise.merge(promise, 1, Integer::sum);
    running = (promise == 0 ? "terms" : "promise " + promise) + ", '" + sentence + "', " + edge;
    if (!document.isEmpty() && !document.contains(sentence)) complain("the document has no such sentence");
    try {
      body.run();
    } catch (RuntimeException thrown) {
      complain("threw " + thrown);
    }
  }

  /** In one line, as the sentences of the tests are; empty where it is not there: then the answers alone are tested. */
  private static String readDocument() {
    try {
      return Files.readString(DOCUMENT).replaceAll("\\s+", " ");
    } catch (IOException gone) {
      System.out.println("sentences are not compared with the document: " + gone);
      return "";
    }
  }

  /** Ends the program; each promise from the first to the last must have had a test. */
  static void end(int firstPromise, int lastPromise) {
    for (int promise = firstPromise; promise <= lastPromise; promise++) {
      running = "promise " + promise;
      if (!testsOfPromise.containsKey(promise)) complain("it has no test");
    }
    System.out.println(tests + " tests, " + (wrong == 0 ? "all hold" : wrong + " answers are not as due"));
    if (wrong != 0) System.exit(1);
  }

  static void due(String call, int got, int want) {
    if (got != want) complain(call + " answered " + got + ", due is " + want);
  }

  static void dueRow(String name, int[] got, int... want) {
    if (got.length != want.length) complain(name + " has " + got.length + " numbers, due are " + want.length);
    for (int i = 0; i < Math.min(got.length, want.length); i++) {
      if (got[i] != want[i]) complain(name + ", number " + i + ", is " + got[i] + ", due is " + want[i]);
    }
  }

  /** ON, OFF, PITCH of each note. */
  static void dueNotes(PartedVoices x, int... want) {
    int[] got = new int[3 * Math.max(0, x.told(0))];
    for (int i = 0; i < got.length; i++) got[i] = x.at(i / 3, i % 3);
    dueRow("the row of notes", got, want);
  }

  static int[] nexts(PartedVoices x) {
    int[] row = new int[Math.max(0, x.told(0))];
    for (int i = 0; i < row.length; i++) row[i] = x.at(i, 3);
    return row;
  }

  static void dueNext(PartedVoices x, int... want) {
    dueRow("the row of NEXT", nexts(x), want);
  }

  /** The numbers of a least() from 0 on; from there to 10 there must be none. */
  static void dueLeast(PartedVoices x, int... want) {
    for (int k = 0; k <= 10; k++) due("least(" + k + ")", x.least(k), k < want.length ? want[k] : NONE);
  }

  static void dueFirst(PartedVoices x, int k, int... want) {
    int[] got = new int[Math.max(0, x.told(0))];
    for (int i = 0; i < got.length; i++) got[i] = x.first(k, i);
    dueRow("the row of first(" + k + ")", got, want);
  }

  /** All that can be asked and does not follow from the rest, by 97 calls. */
  static int[] whole(PartedVoices x) {
    int[] row = new int[97];
    for (int what = 0; what < 16; what++) row[what] = x.told(what);
    for (int i = 0; i < 80; i++) row[16 + i] = x.at(i / 8, i % 8);
    row[96] = x.voice(0, 0);
    return row;
  }

  static PartedVoices empty() {
    return new PartedVoices();
  }

  /** Four notes: 60 and 72 sound from 0 to 4, 59 and 74 from 4 to 8. */
  static PartedVoices four() {
    return withNotes(0, 4, 60, 0, 4, 72, 4, 4, 59, 4, 4, 74);
  }

  /** So many notes of one pitch, each beginning as the one ahead ends. */
  static PartedVoices chain(int notes) {
    PartedVoices x = new PartedVoices();
    for (int i = 0; i < notes; i++) x.note(i, 1, 60);
    return x;
  }

  /** So many notes that begin at once, each higher by one. */
  static PartedVoices chord(int notes) {
    PartedVoices x = new PartedVoices();
    for (int i = 0; i < notes; i++) x.note(5, 1, 60 + i);
    return x;
  }

  /** Notes by ON, LENGTH, PITCH. */
  static PartedVoices withNotes(int... numbers) {
    PartedVoices x = new PartedVoices();
    for (int i = 0; i + 2 < numbers.length; i += 3) x.note(numbers[i], numbers[i + 1], numbers[i + 2]);
    return x;
  }

  /** One note at least follows another in a chain: what has come loose can be seen. */
  static PartedVoices linked(int notes) {
    PartedVoices x = chain(notes);
    for (int i = 0; i + 1 < notes; i++) x.follow(i, i + 1);
    return x;
  }
}
