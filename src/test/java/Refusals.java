/** Each call that is refused: with the first of its refusals in their order, and nothing changes by it. */
public final class Refusals extends Checks {
  private interface Call {
    int on(PartedVoices x);
  }

  private interface Recipe {
    PartedVoices make();
  }

  /** Ten notes, nine of them followed, all terms changed, twenty entries in the book, both images, sixteen deeds. */
  private static PartedVoices full() {
    PartedVoices x = new PartedVoices();
    x.note(3, 3, 33);
    x.seed(11);
    x.keep(0);
    x.share(0);
    x.term(1, 3);
    x.seed(22);
    x.keep(1);
    x.clear();
    x.term(0, 2);
    x.term(2, 20);
    x.term(3, 30);
    x.term(4, 40);
    for (int i = 0; i < 10; i++) x.note(2 * i, 1, 60 + i);
    x.part(1);
    x.cut(4);
    for (int i = 0; i < 20; i++) x.write(i % 11, x.least(i % 11));
    x.seed(33);
    return x;
  }

  /** Two voices that cross; no image, no book, six deeds and one undone. */
  private static PartedVoices some() {
    PartedVoices x = four();
    x.follow(0, 3);
    x.follow(1, 2);
    x.seed(44);
    x.term(3, 25);
    x.undo(1);
    return x;
  }

  /** What is so, what could be undone, and what images hold must be the same with the call as without it. */
  private static void refused(int promise, String sentence, String edge, Recipe recipe, Call call, int want) {
    test(promise, sentence, edge, () -> {
      PartedVoices x = recipe.make();
      int[] before = whole(x);
      due("the call", call.on(x), want);
      dueRow("what is so", whole(x), before);
      dueSamePast(recipe, call);
      dueSameImages(recipe, call);
    });
  }

  private static void dueSamePast(Recipe recipe, Call call) {
    for (int steps = 1; steps <= 16; steps++) {
      PartedVoices x = recipe.make();
      PartedVoices y = recipe.make();
      call.on(x);
      due("undo(" + steps + ") after it", x.undo(steps), y.undo(steps));
      dueRow("what is so after undo(" + steps + ")", whole(x), whole(y));
    }
  }

  private static void dueSameImages(Recipe recipe, Call call) {
    for (int i = 0; i < 2; i++) {
      PartedVoices x = recipe.make();
      PartedVoices y = recipe.make();
      call.on(x);
      due("goBack(" + i + ") after it", x.goBack(i), y.goBack(i));
      dueRow("what is so after goBack(" + i + ")", whole(x), whole(y));
      due("tear() after it", x.tear(), y.tear());
    }
  }

  private static final String NOTHING = "What is refused changes nothing.";
  private static final String ORDER = "REFUSALS, of several the first in this order:"
      + " UNKNOWN (a NOTE, VOICE, IMAGE that there is not), OUTSIDE (another number out of its bounds), NOT (not now, as told), FULL.";

  private static void asking() {
    refused(2, NOTHING, "told, OUTSIDE", Refusals::full, x -> x.told(16), OUTSIDE);
    refused(3, NOTHING, "at, UNKNOWN", Refusals::full, x -> x.at(10, 0), UNKNOWN);
    refused(3, NOTHING, "at, OUTSIDE", Refusals::full, x -> x.at(0, 8), OUTSIDE);
    refused(4, NOTHING, "cost, UNKNOWN", Refusals::full, x -> x.cost(0, 10), UNKNOWN);
    refused(5, NOTHING, "least, OUTSIDE", Refusals::full, x -> x.least(11), OUTSIDE);
    refused(6, NOTHING, "first, UNKNOWN", Refusals::full, x -> x.first(1, 10), UNKNOWN);
    refused(6, NOTHING, "first, OUTSIDE", Refusals::full, x -> x.first(11, 0), OUTSIDE);
    refused(6, NOTHING, "first, NOT", Refusals::full, x -> x.first(0, 0), NOT);
    refused(7, NOTHING, "voice, UNKNOWN", Refusals::full, x -> x.voice(2, 0), UNKNOWN);
    refused(7, NOTHING, "voice, OUTSIDE", Refusals::full, x -> x.voice(0, 7), OUTSIDE);
    refused(8, NOTHING, "member, UNKNOWN", Refusals::full, x -> x.member(2, 0), UNKNOWN);
    refused(8, NOTHING, "member, OUTSIDE", Refusals::full, x -> x.member(0, -1), OUTSIDE);
  }

  private static void notes() {
    refused(9, NOTHING, "note, ON", Refusals::some, x -> x.note(100, 1, 60), OUTSIDE);
    refused(9, NOTHING, "note, LENGTH", Refusals::some, x -> x.note(1, 0, 60), OUTSIDE);
    refused(9, NOTHING, "note, PITCH", Refusals::some, x -> x.note(1, 1, 128), OUTSIDE);
    refused(9, NOTHING, "note, FULL", Refusals::full, x -> x.note(1, 1, 60), FULL);
    refused(10, NOTHING, "take, UNKNOWN", Refusals::full, x -> x.take(10), UNKNOWN);
    refused(10, NOTHING, "take, none there", Checks::empty, x -> x.take(0), UNKNOWN);
    refused(11, NOTHING, "move, UNKNOWN", Refusals::full, x -> x.move(10, 1, 1, 60), UNKNOWN);
    refused(11, NOTHING, "move, ON", Refusals::full, x -> x.move(0, -1, 1, 60), OUTSIDE);
    refused(11, NOTHING, "move, LENGTH", Refusals::some, x -> x.move(0, 1, 33, 60), OUTSIDE);
    refused(11, NOTHING, "move, PITCH", Refusals::some, x -> x.move(0, 1, 1, -1), OUTSIDE);
    refused(12, NOTHING, "share, UNKNOWN", Refusals::some, x -> x.share(4), UNKNOWN);
    refused(12, NOTHING, "share, FULL", Refusals::full, x -> x.share(0), FULL);
    refused(13, NOTHING, "term, which", Refusals::full, x -> x.term(5, 0), OUTSIDE);
    refused(13, NOTHING, "term, v too large", Refusals::full, x -> x.term(0, 10), OUTSIDE);
    refused(13, NOTHING, "term, v too small", Refusals::some, x -> x.term(4, -1), OUTSIDE);
  }

  private static void lines() {
    refused(14, NOTHING, "follow, UNKNOWN", Refusals::full, x -> x.follow(4, 10), UNKNOWN);
    refused(14, NOTHING, "follow, NOT", Refusals::full, x -> x.follow(5, 4), NOT);
    refused(14, NOTHING, "follow, NOT, b follows another", Refusals::some, x -> x.follow(3, 2), NOT);
    refused(15, NOTHING, "cut, UNKNOWN", Refusals::full, x -> x.cut(10), UNKNOWN);
    refused(16, NOTHING, "part, OUTSIDE", Refusals::full, x -> x.part(11), OUTSIDE);
    refused(16, NOTHING, "part, NOT", Refusals::some, x -> x.part(1), NOT);
    refused(19, NOTHING, "drift, 0", Refusals::some, x -> x.drift(0), OUTSIDE);
    refused(19, NOTHING, "drift, 11", Refusals::some, x -> x.drift(11), OUTSIDE);
    refused(20, NOTHING, "undo, 0", Refusals::full, x -> x.undo(0), OUTSIDE);
    refused(20, NOTHING, "undo, 17", Refusals::full, x -> x.undo(17), OUTSIDE);
    refused(20, NOTHING, "undo, NOT", Refusals::some, x -> x.undo(7), NOT);
  }

  private static void bookAndImages() {
    refused(21, NOTHING, "write, OUTSIDE", Refusals::some, x -> x.write(11, 7), OUTSIDE);
    refused(21, NOTHING, "write, FULL", Refusals::full, x -> x.write(0, 7), FULL);
    refused(23, NOTHING, "seed, OUTSIDE", Refusals::full, x -> x.seed(-1), OUTSIDE);
    refused(24, NOTHING, "keep, UNKNOWN, 2", Refusals::full, x -> x.keep(2), UNKNOWN);
    refused(24, NOTHING, "keep, UNKNOWN, -1", Refusals::some, x -> x.keep(-1), UNKNOWN);
    refused(25, NOTHING, "goBack, UNKNOWN", Refusals::full, x -> x.goBack(2), UNKNOWN);
    refused(25, NOTHING, "goBack, NOT", Refusals::some, x -> x.goBack(1), NOT);
  }

  private static void ordered() {
    refused(3, ORDER, "at: a note unknown, what outside", Refusals::full, x -> x.at(10, 8), UNKNOWN);
    refused(6, ORDER, "first: a note unknown, k outside", Refusals::full, x -> x.first(11, 10), UNKNOWN);
    refused(6, ORDER, "first: a note unknown, no parting with k", Refusals::full, x -> x.first(0, 10), UNKNOWN);
    refused(6, ORDER, "first: k outside, and no parting with it", Refusals::full, x -> x.first(11, 9), OUTSIDE);
    refused(7, ORDER, "voice: a voice unknown, what outside", Refusals::full, x -> x.voice(2, 7), UNKNOWN);
    refused(8, ORDER, "member: a voice unknown, i outside", Refusals::full, x -> x.member(2, -1), UNKNOWN);
    refused(9, ORDER, "note: outside, and full", Refusals::full, x -> x.note(1, 33, 60), OUTSIDE);
    refused(11, ORDER, "move: a note unknown, ON outside", Refusals::full, x -> x.move(10, 100, 1, 60), UNKNOWN);
    refused(12, ORDER, "share: a note unknown, and full", Refusals::full, x -> x.share(10), UNKNOWN);
    refused(14, ORDER, "follow: b unknown, so it may not", Refusals::full, x -> x.follow(9, 10), UNKNOWN);
    refused(14, ORDER, "follow: a unknown, so it may not", Refusals::full, x -> x.follow(10, 0), UNKNOWN);
    refused(16, ORDER, "part: outside, and no parting with it", Refusals::some, x -> x.part(11), OUTSIDE);
    refused(20, ORDER, "undo: outside, and not so many", Refusals::some, x -> x.undo(17), OUTSIDE);
    refused(21, ORDER, "write: outside, and full", Refusals::full, x -> x.write(-1, 7), OUTSIDE);
    refused(25, ORDER, "goBack: an image unknown, not kept", Refusals::some, x -> x.goBack(2), UNKNOWN);
  }

  /** That the recipes are as they are told, so that it would be seen if something changed. */
  private static void recipes() {
    test(0, NOTHING, "the full object", () -> {
      PartedVoices x = full();
      due("notes", x.told(0), 10);
      due("voices", x.told(1), 2);
      due("entries", x.told(12), 20);
      due("wrong", x.told(13), NONE);
      due("deeds", x.told(14), 16);
      due("goBack(0)", x.goBack(0), 1);
      due("goBack(1)", x.goBack(1), 1);
    });
    test(0, NOTHING, "the other object", () -> {
      due("voices", some().told(1), 2);
      due("crossings", some().told(6), 1);
      due("deeds", some().told(14), 6);
    });
  }

  public static void main(String[] args) {
    recipes();
    asking();
    notes();
    lines();
    bookAndImages();
    ordered();
    end(2, 16);
  }
}
