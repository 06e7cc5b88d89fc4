/** The boundaries that promises 21 to 25 name: the book, the seed, images. */
public final class BoundsOfBookAndImages extends Checks {
  private static void write() {
    String write = "An entry behind THE BOOK (LEAST of k, 0 .. 10, is v, any): how many. OUTSIDE, FULL (20).";
    test(21, write, "the first", () -> due("write(0, 0)", empty().write(0, 0), 1));
    test(21, write, "the twentieth, and one more: FULL", () -> {
      PartedVoices x = empty();
      for (int i = 1; i <= 20; i++) due("write(0, 0)", x.write(0, 0), i);
      due("write(0, 0)", x.write(0, 0), FULL);
      due("told(12)", x.told(12), 20);
    });
    test(21, write, "behind the others", () -> {
      PartedVoices x = empty();
      x.write(0, 0);
      x.write(0, 5);
      due("told(13)", x.told(13), 1);
    });
    test(21, write, "k 0", () -> due("write(0, 3)", empty().write(0, 3), 1));
    test(21, write, "k 10", () -> {
      PartedVoices x = chain(10);
      due("write(10, 200)", x.write(10, 200), 1);
      due("told(13)", x.told(13), NONE);
    });
    test(21, write, "k -1 is too small", () -> due("write(-1, 0)", empty().write(-1, 0), OUTSIDE));
    test(21, write, "k 11 is too large", () -> due("write(11, 0)", empty().write(11, 0), OUTSIDE));
    test(21, write, "k far away", () -> {
      for (int far : FAR_BELOW) due("write(" + far + ", 0)", empty().write(far, 0), OUTSIDE);
      for (int far : FAR_ABOVE) due("write(" + far + ", 0)", empty().write(far, 0), OUTSIDE);
    });
    test(21, write, "v any: the least, the greatest, a refusal's number, below NONE", () -> {
      PartedVoices x = empty();
      int[] any = {MIN, MAX, UNKNOWN, OUTSIDE, NOT, FULL, -2, NONE};
      for (int i = 0; i < any.length; i++) due("write(1, " + any[i] + ")", x.write(1, any[i]), i + 1);
      due("told(13)", x.told(13), 0);
    });
    test(21, write, "room again, once torn", () -> {
      PartedVoices x = empty();
      for (int i = 0; i < 20; i++) x.write(0, 0);
      x.tear();
      for (int i = 1; i <= 20; i++) due("write(0, 0)", x.write(0, 0), i);
      due("write(0, 0)", x.write(0, 0), FULL);
    });
  }

  private static void tear() {
    String tear = "No BOOK: how much it had.";
    test(22, tear, "it had nothing", () -> due("tear()", empty().tear(), 0));
    test(22, tear, "it had twenty", () -> {
      PartedVoices x = empty();
      for (int i = 0; i < 20; i++) x.write(0, 9);
      due("tear()", x.tear(), 20);
      due("told(12)", x.told(12), 0);
      due("told(13)", x.told(13), NONE);
    });
    test(22, tear, "twice", () -> {
      PartedVoices x = empty();
      x.write(0, 9);
      due("tear()", x.tear(), 1);
      due("tear()", x.tear(), 0);
    });
    test(22, tear, "what was wrong does not come back with a new entry", () -> {
      PartedVoices x = empty();
      x.write(0, 0);
      x.write(0, 9);
      x.tear();
      x.write(0, 0);
      due("told(13)", x.told(13), NONE);
      due("told(12)", x.told(12), 1);
    });
  }

  private static void seed() {
    String seed = "THE SEED becomes v (0 .. 2147483647): what it was. OUTSIDE.";
    test(23, seed, "it was 0 at first", () -> due("seed(5)", empty().seed(5), 0));
    test(23, seed, "0", () -> {
      PartedVoices x = empty();
      x.seed(5);
      due("seed(0)", x.seed(0), 5);
      due("told(15)", x.told(15), 0);
    });
    test(23, seed, "2147483647", () -> {
      PartedVoices x = empty();
      due("seed(max)", x.seed(MAX), 0);
      due("seed(0)", x.seed(0), MAX);
    });
    test(23, seed, "-1 is too small", () -> due("seed(-1)", empty().seed(-1), OUTSIDE));
    test(23, seed, "far too small", () -> {
      for (int far : FAR_BELOW) due("seed(" + far + ")", empty().seed(far), OUTSIDE);
    });
    test(23, seed, "none is too large", () -> {
      for (int far : FAR_ABOVE) due("seed(" + far + ")", empty().seed(far), 0);
    });
    test(23, seed, "what it was, once drawn from", () -> {
      PartedVoices x = empty();
      x.drift(1);
      due("seed(0)", x.seed(0), 654583775);
    });
  }

  private static void keep() {
    String keep = "IMAGE i becomes what is so (nothing can be undone then): 1. UNKNOWN.";
    test(24, keep, "0", () -> due("keep(0)", empty().keep(0), 1));
    test(24, keep, "1", () -> due("keep(1)", empty().keep(1), 1));
    test(24, keep, "-1", () -> due("keep(-1)", empty().keep(-1), UNKNOWN));
    test(24, keep, "2", () -> due("keep(2)", empty().keep(2), UNKNOWN));
    test(24, keep, "far away", () -> {
      for (int far : FAR_BELOW) due("keep(" + far + ")", empty().keep(far), UNKNOWN);
      for (int far : FAR_ABOVE) due("keep(" + far + ")", empty().keep(far), UNKNOWN);
    });
    test(24, keep, "nothing can be undone then, sixteen as there were", () -> {
      PartedVoices x = linked(10);
      x.keep(0);
      due("told(14)", x.told(14), 0);
      due("undo(1)", x.undo(1), NOT);
    });
    test(24, keep, "what is so stays", () -> {
      PartedVoices x = linked(3);
      x.keep(0);
      dueNext(x, 1, 2, NONE);
    });
    test(24, keep, "kept again: the later one", () -> {
      PartedVoices x = chain(3);
      x.keep(1);
      x.take(0);
      x.keep(1);
      x.clear();
      x.goBack(1);
      dueNotes(x, 1, 2, 60, 2, 3, 60);
    });
    test(24, keep, "of no notes", () -> {
      PartedVoices x = empty();
      x.keep(0);
      x.drift(10);
      due("goBack(0)", x.goBack(0), 1);
      due("told(0)", x.told(0), 0);
      due("told(15)", x.told(15), 0);
    });
  }

  private static void goBack() {
    String back = "What is so becomes IMAGE i (nothing can be undone then): 1. UNKNOWN, NOT: it was not kept.";
    test(25, back, "0 and 1, each its own", () -> {
      PartedVoices x = chain(1);
      x.keep(0);
      x.share(0);
      x.keep(1);
      x.clear();
      due("goBack(0)", x.goBack(0), 1);
      due("told(0)", x.told(0), 1);
      due("goBack(1)", x.goBack(1), 1);
      due("told(0)", x.told(0), 2);
    });
    test(25, back, "0 was not kept, 1 was", () -> {
      PartedVoices x = empty();
      x.keep(1);
      due("goBack(0)", x.goBack(0), NOT);
    });
    test(25, back, "1 was not kept, 0 was", () -> {
      PartedVoices x = empty();
      x.keep(0);
      due("goBack(1)", x.goBack(1), NOT);
    });
    test(25, back, "-1", () -> due("goBack(-1)", empty().goBack(-1), UNKNOWN));
    test(25, back, "2", () -> due("goBack(2)", empty().goBack(2), UNKNOWN));
    test(25, back, "far away", () -> {
      for (int far : FAR_BELOW) due("goBack(" + far + ")", empty().goBack(far), UNKNOWN);
      for (int far : FAR_ABOVE) due("goBack(" + far + ")", empty().goBack(far), UNKNOWN);
    });
    test(25, back, "nothing can be undone then", () -> {
      PartedVoices x = chain(3);
      x.keep(0);
      x.clear();
      x.drift(10);
      x.goBack(0);
      due("told(14)", x.told(14), 0);
      due("undo(1)", x.undo(1), NOT);
    });
    test(25, back, "once more: the image stays as it was kept", () -> {
      PartedVoices x = linked(10);
      x.seed(3);
      x.keep(0);
      int[] kept = whole(x);
      x.goBack(0);
      x.clear();
      x.drift(10);
      x.term(0, 9);
      x.goBack(0);
      dueRow("what is so", whole(x), kept);
    });
    test(25, back, "deeds after it are undone as far as to it", () -> {
      PartedVoices x = chain(3);
      x.keep(0);
      x.clear();
      x.goBack(0);
      x.share(2);
      x.share(2);
      due("undo(3)", x.undo(3), NOT);
      due("undo(2)", x.undo(2), 3);
    });
  }

  private static void images() {
    String images = "IMAGES 0, 1 keep NOTES, TERMS, NEXT, THE SEED.";
    test(0, images, "NOTES", () -> {
      PartedVoices x = withNotes(0, 1, 0, 99, 32, 127);
      x.keep(0);
      x.clear();
      x.goBack(0);
      dueNotes(x, 0, 1, 0, 99, 131, 127);
    });
    test(0, images, "all TERMS", () -> {
      int[] greatest = {9, 9, 99, 999, 99};
      PartedVoices x = empty();
      for (int which = 0; which < 5; which++) x.term(which, greatest[which]);
      x.keep(1);
      for (int which = 0; which < 5; which++) x.term(which, 0);
      x.goBack(1);
      for (int which = 0; which < 5; which++) due("told(" + (7 + which) + ")", x.told(7 + which), greatest[which]);
    });
    test(0, images, "NEXT", () -> {
      PartedVoices x = linked(10);
      x.keep(0);
      x.part(10);
      x.goBack(0);
      dueNext(x, 1, 2, 3, 4, 5, 6, 7, 8, 9, NONE);
    });
    test(0, images, "THE SEED, the greatest", () -> {
      PartedVoices x = empty();
      x.seed(MAX);
      x.keep(1);
      x.drift(3);
      x.goBack(1);
      due("told(15)", x.told(15), MAX);
    });
    test(0, images, "not THE BOOK: what was written since stays", () -> {
      PartedVoices x = empty();
      x.keep(0);
      x.write(0, 0);
      x.goBack(0);
      due("told(12)", x.told(12), 1);
    });
    test(0, images, "not THE BOOK: what was torn since is gone", () -> {
      PartedVoices x = empty();
      x.write(0, 0);
      x.keep(0);
      x.tear();
      x.goBack(0);
      due("told(12)", x.told(12), 0);
    });
    test(0, images, "partings are those of the image", () -> {
      PartedVoices x = four();
      x.keep(0);
      x.term(3, 0);
      due("least(2)", x.least(2), 3);
      x.goBack(0);
      due("least(2)", x.least(2), 43);
      due("told(13)", x.told(13), NONE);
    });
  }

  public static void main(String[] args) {
    write();
    tear();
    seed();
    keep();
    goBack();
    images();
    end(21, 25);
  }
}
