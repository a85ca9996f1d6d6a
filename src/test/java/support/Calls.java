import java.util.function.Supplier;
import java.util.function.ToIntFunction;

/** Calls held against what each refusal and each edit has to keep to. */
final class Calls {
  private static final int BAD = -2, NO = -3, FULL = -4;

  private final Check check;

  Calls(Check check) {
    this.check = check;
  }

  /**
   * A refused call changes nothing but how often. A second object, made alike, that is not asked
   * tells what must stay, so that no object is used for more than 512 calls.
   */
  void refused(String call, Supplier<NestRanges> made, ToIntFunction<NestRanges> asked, int want) {
    NestRanges x = made.get(), y = made.get();
    check.due(call, asked.applyAsInt(x), want);
    int[] counted = {BAD, NO, FULL};
    for (int w = 0; w < 3; w++) {
      int more = counted[w] == want ? 1 : 0;
      check.due("told(" + w + ") behind " + call, x.told(w), y.told(w) + more);
    }
    check.same("all behind " + call, Texts.view(x), Texts.view(y));
    sameUndone(call, x, y);
  }

  void bad(String call, Supplier<NestRanges> made, ToIntFunction<NestRanges> asked) {
    refused(call, made, asked, BAD);
  }

  void full(String call, Supplier<NestRanges> made, ToIntFunction<NestRanges> asked) {
    refused(call, made, asked, FULL);
  }

  private void sameUndone(String call, NestRanges x, NestRanges y) {
    for (int i = 0; i < 13; i++) {
      check.due("undo() behind " + call, x.undo(), y.undo());
      check.due("told(4) undone behind " + call, x.told(4), y.told(4));
      check.due("told(7) undone behind " + call, x.told(7), y.told(7));
      if (i == 0) check.same("ranges undone behind " + call, Texts.ranges(x), Texts.ranges(y));
    }
  }

  /** An edit is answered, is one more that can be undone, and is undone whole; nothing is refused. */
  void edit(String call, Supplier<NestRanges> made, ToIntFunction<NestRanges> asked, int want) {
    NestRanges x = made.get(), y = made.get();
    check.due(call, asked.applyAsInt(x), want);
    int before = y.told(6);
    check.due("told(6) behind " + call, x.told(6), Math.min(12, before + 1));
    for (int w = 0; w < 3; w++) check.due("told(" + w + ") behind " + call, x.told(w), y.told(w));
    check.due("undo() of " + call, x.undo(), Math.min(11, before));
    if (before < 12) check.same("all behind the undone " + call, Texts.view(x), Texts.view(y));
    sameBehindUndo(call, made, asked);
  }

  /** An edit begins with what stands, not with what an edit that was undone had made of it. */
  private void sameBehindUndo(String call, Supplier<NestRanges> made, ToIntFunction<NestRanges> asked) {
    NestRanges x = made.get(), y = made.get();
    x.draw(1, 0);
    x.undo();
    check.due(call + " behind an undo", asked.applyAsInt(x), asked.applyAsInt(y));
    check.same("all behind " + call + " behind an undo", Texts.view(x), Texts.view(y));
  }

  /** What was asked or refused ahead of an edit leaves nothing behind. */
  void sameBehind(String first, ToIntFunction<NestRanges> earlier, String call, Supplier<NestRanges> made,
      ToIntFunction<NestRanges> asked) {
    NestRanges x = made.get(), y = made.get();
    earlier.applyAsInt(x);
    check.due(call + " behind " + first, asked.applyAsInt(x), asked.applyAsInt(y));
    check.same("all behind " + call + " behind " + first, Texts.view(x), Texts.view(y));
  }

  /** An answer that is neither an edit nor refused: nothing changes at all. */
  void asked(String call, Supplier<NestRanges> made, ToIntFunction<NestRanges> asked, int want) {
    NestRanges x = made.get(), y = made.get();
    check.due(call, asked.applyAsInt(x), want);
    check.due("digest() behind " + call, x.digest(), y.digest());
    check.same("all behind " + call, Texts.view(x), Texts.view(y));
  }
}
