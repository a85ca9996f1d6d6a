import java.math.BigInteger;
import java.util.function.Supplier;

/** The boundaries that each promise names, a test for each sentence, in the document's order. */
public final class BoundariesTest {
  private static final Check C = new Check();
  private static final Calls CALLS = new Calls(C);
  private static final int MIN = Texts.MIN, MAX = Texts.MAX;

  /** Numbers that are never as told: below 0 and far above all that is. */
  private static final int[] WILD = {-1, -2, MIN, MIN + 1, MAX, MAX - 1, 1000001};

  public static void main(String[] args) {
    newObject();
    anew();
    anewLeavesNothing();
    range();
    drop();
    moves();
    kind();
    rank();
    puts();
    takes();
    joins();
    joinsOfMany();
    splits();
    splitsUpToEight();
    undo();
    of();
    across();
    over();
    section();
    stack();
    least();
    ways();
    plain();
    free();
    without();
    nodes();
    node();
    all();
    draw();
    drawnNumbers();
    told();
    digest();
    C.end();
  }

  /** Four ranges that lie across one another, one of them empty, and two edits more. */
  private static NestRanges usual() {
    NestRanges x = Texts.with(1, 0, 20, 0, 10, 30, 1, 20, 35, 2, 7, 7);
    x.rank(3, 2);
    x.puts(40, 5);
    return x;
  }

  private static final Supplier<NestRanges> USUAL = BoundariesTest::usual;

  private static void newObject() {
    C.about("promise 1: L is 40, no ranges");
    NestRanges x = new NestRanges();
    int[] want = {0, 0, 0, 0, 40, 0, 0, 123};
    for (int w = 0; w < 8; w++) C.due("told(" + w + ")", x.told(w), want[w]);
    C.same("all", Texts.view(x), "0 40 0 0 123 \n\n\n\n\n0 0 0 0 0 0 1 0 0 -1 -1");
    CALLS.edit("range(0, 40, 40)", NestRanges::new, y -> y.range(0, 40, 40), 0);
    CALLS.bad("range(0, 40, 41)", NestRanges::new, y -> y.range(0, 40, 41));
    CALLS.bad("drop(0)", NestRanges::new, y -> y.drop(0));
    CALLS.refused("undo()", NestRanges::new, y -> y.undo(), -3);
    C.about("promise 1: each object by itself");
    x.range(0, 0, 1);
    C.due("told(3)", new NestRanges().told(3), 0);
  }

  private static void anew() {
    C.about("promise 2: BAD");
    for (int l : WILD) CALLS.bad("anew(" + l + ")", USUAL, x -> x.anew(l));
    CALLS.bad("anew(91)", USUAL, x -> x.anew(91));
    C.about("promise 2: the text has l places, 0 and 90 at the ends");
    for (int l : new int[] {0, 1, 89, 90}) {
      NestRanges x = usual();
      C.due("anew(" + l + ")", x.anew(l), 4);
      C.due("told(4)", x.told(4), l);
      C.due("range(0, 0, l)", x.range(0, 0, l), 0);
      C.due("range(0, l, l + 1)", x.range(0, l, l + 1), -2);
    }
    C.about("promise 2: how many ranges there were");
    NestRanges x = new NestRanges();
    C.due("anew(40)", x.anew(40), 0);
    for (int i = 0; i < 8; i++) x.range(0, 0, 0);
    C.due("anew(40)", x.anew(40), 8);
    C.due("anew(40)", x.anew(40), 0);
  }

  private static void anewLeavesNothing() {
    C.about("promise 2: no ranges, ranks as at first, nothing to undo");
    NestRanges x = usual();
    x.drop(9);
    x.puts(0, 90);
    x.anew(0);
    x.undo();
    x.anew(40);
    int[] want = {1, 1, 1, 0, 40, 0, 0, 123};
    for (int w = 0; w < 8; w++) C.due("told(" + w + ")", x.told(w), want[w]);
    C.same("all", Texts.view(x), Texts.view(new NestRanges()));
    C.about("promise 2: ranks as at first, each of them, and the nest goes by them");
    NestRanges z = Texts.with(0, 0, 9, 3, 0, 9);
    for (int k = 0; k < 4; k++) z.rank(k, 3 - k);
    C.same("stacks", Texts.stacks(z), "1 0");
    z.anew(40);
    C.due("told(7)", z.told(7), 123);
    C.due("nodes()", z.nodes(), 0);
    z.range(3, 0, 9);
    z.range(0, 0, 9);
    C.same("stacks", Texts.stacks(z), "1 0");
    C.about("promise 2: nothing to undo, also when edits were lost");
    NestRanges y = new NestRanges();
    for (int i = 0; i < 20; i++) y.puts(0, 1);
    y.anew(3);
    C.due("undo()", y.undo(), -3);
    y.puts(0, 1);
    C.due("undo()", y.undo(), 0);
    C.due("told(4)", y.told(4), 3);
    C.due("undo()", y.undo(), -3);
    for (int i = 0; i < 12; i++) y.puts(0, 1);
    for (int i = 11; i >= 0; i--) C.due("undo()", y.undo(), i);
    C.due("told(4)", y.told(4), 3);
  }

  private static void range() {
    C.about("promise 3: BAD");
    for (int w : WILD) {
      CALLS.bad("range(" + w + ", 0, 1)", USUAL, x -> x.range(w, 0, 1));
      CALLS.bad("range(0, " + w + ", 1)", USUAL, x -> x.range(0, w, 1));
      CALLS.bad("range(0, 0, " + w + ")", USUAL, x -> x.range(0, 0, w));
      CALLS.bad("range(0, " + w + ", " + w + ")", USUAL, x -> x.range(0, w, w));
    }
    CALLS.bad("range(4, 0, 1)", USUAL, x -> x.range(4, 0, 1));
    CALLS.bad("range(0, 1, 0)", USUAL, x -> x.range(0, 1, 0));
    CALLS.bad("range(0, 45, 44)", USUAL, x -> x.range(0, 45, 44));
    CALLS.bad("range(0, 45, 46)", USUAL, x -> x.range(0, 45, 46));
    CALLS.bad("range(0, 46, 46)", USUAL, x -> x.range(0, 46, 46));
    C.about("promise 3: a range comes, at the ends of all numbers");
    int[][] fine = {{0, 0, 0}, {3, 0, 45}, {0, 45, 45}, {3, 44, 45}, {0, 0, 1}};
    for (int[] f : fine) {
      CALLS.edit("range(" + f[0] + ", " + f[1] + ", " + f[2] + ")", USUAL, x -> x.range(f[0], f[1], f[2]), 4);
    }
    C.about("promise 3: FULL by numbers");
    Supplier<NestRanges> eight = () -> Texts.with(0, 1, 1, 0, 1, 1, 0, 1, 1, 0, 1, 1, 0, 1, 1, 0, 1, 1, 0, 1, 1, 0, 1, 1);
    CALLS.full("range(0, 1, 1)", eight, x -> x.range(0, 1, 1));
    CALLS.full("range(3, 0, 40)", eight, x -> x.range(3, 0, 40));
    C.about("promise 3: FULL by one section alone, where the new range makes the cuts");
    Supplier<NestRanges> steps = () -> Texts.with(0, 0, 20, 0, 5, 21, 0, 8, 22, 0, 10, 23, 0, 19, 24);
    CALLS.full("range(0, 19, 20)", steps, x -> x.range(0, 19, 20));
    CALLS.full("range(0, 0, 40)", steps, x -> x.range(0, 0, 40));
    CALLS.full("range(0, 0, 20)", steps, x -> x.range(0, 0, 20));
    CALLS.edit("range(0, 0, 19)", steps, x -> x.range(0, 0, 19), 5);
    CALLS.edit("range(0, 20, 40)", steps, x -> x.range(0, 20, 40), 5);
    C.about("promise 3: E, a refused one is none");
    NestRanges x = eight.get();
    x.range(0, 0, 0);
    C.due("told(6)", x.told(6), 8);
  }

  private static void drop() {
    C.about("promise 4: BAD");
    for (int r : WILD) CALLS.bad("drop(" + r + ")", USUAL, x -> x.drop(r));
    CALLS.bad("drop(4)", USUAL, x -> x.drop(4));
    CALLS.bad("drop(0) of none", NestRanges::new, x -> x.drop(0));
    C.about("promise 4: how many are left, down to none");
    CALLS.edit("drop(0)", USUAL, x -> x.drop(0), 3);
    CALLS.edit("drop(3)", USUAL, x -> x.drop(3), 3);
    CALLS.edit("drop(0) of one", () -> Texts.with(2, 3, 4), x -> x.drop(0), 0);
    C.about("promise 4: the last of eight");
    NestRanges x = Texts.with(0, 0, 0, 0, 0, 0, 0, 0, 0, 0, 0, 0, 0, 0, 0, 0, 0, 0, 0, 0, 0, 1, 5, 6);
    C.due("drop(8)", x.drop(8), -2);
    C.due("drop(7)", x.drop(7), 7);
    C.due("drop(7)", x.drop(7), -2);
    C.due("told(5)", x.told(5), 0);
    C.due("range(0, 0, 0)", x.range(0, 0, 0), 7);
  }

  private static void moves() {
    C.about("promise 5: BAD");
    for (int w : WILD) {
      CALLS.bad("moves(" + w + ", 0, 1)", USUAL, x -> x.moves(w, 0, 1));
      CALLS.bad("moves(0, " + w + ", 1)", USUAL, x -> x.moves(0, w, 1));
      CALLS.bad("moves(0, 0, " + w + ")", USUAL, x -> x.moves(0, 0, w));
      CALLS.bad("moves(0, " + w + ", " + w + ")", USUAL, x -> x.moves(0, w, w));
    }
    CALLS.bad("moves(4, 0, 1)", USUAL, x -> x.moves(4, 0, 1));
    CALLS.bad("moves(0, 1, 0)", USUAL, x -> x.moves(0, 1, 0));
    CALLS.bad("moves(0, 0, 46)", USUAL, x -> x.moves(0, 0, 46));
    CALLS.bad("moves(0, 46, 46)", USUAL, x -> x.moves(0, 46, 46));
    CALLS.bad("moves(0, 0, 0) of none", NestRanges::new, x -> x.moves(0, 0, 0));
    C.about("promise 5: by how much longer (below 0: shorter)");
    CALLS.edit("moves(0, 0, 20), as it was", USUAL, x -> x.moves(0, 0, 20), 0);
    CALLS.edit("moves(0, 25, 45), as long", USUAL, x -> x.moves(0, 25, 45), 0);
    CALLS.edit("moves(0, 0, 45)", USUAL, x -> x.moves(0, 0, 45), 25);
    CALLS.edit("moves(0, 45, 45)", USUAL, x -> x.moves(0, 45, 45), -20);
    CALLS.edit("moves(0, 0, 19)", USUAL, x -> x.moves(0, 0, 19), -1);
    CALLS.edit("moves(3, 0, 45)", USUAL, x -> x.moves(3, 0, 45), 45);
    C.about("promise 5: the greatest");
    CALLS.edit("moves(0, 0, 90)", () -> Texts.of(90, 0, 9, 9), x -> x.moves(0, 0, 90), 90);
    CALLS.edit("moves(0, 9, 9)", () -> Texts.of(90, 0, 0, 90), x -> x.moves(0, 9, 9), -90);
    C.about("promise 5: FULL");
    Supplier<NestRanges> five = () -> Texts.with(0, 5, 9, 0, 5, 9, 0, 5, 9, 0, 5, 9, 0, 5, 9, 1, 9, 20, 1, 30, 30, 1, 30, 30);
    CALLS.full("moves(5, 8, 20)", five, x -> x.moves(5, 8, 20));
    CALLS.full("moves(5, 0, 6)", five, x -> x.moves(5, 0, 6));
    CALLS.full("moves(6, 0, 40)", five, x -> x.moves(6, 0, 40));
    CALLS.edit("moves(5, 0, 5)", five, x -> x.moves(5, 0, 5), -6);
    CALLS.edit("moves(5, 7, 7)", five, x -> x.moves(5, 7, 7), -11);
    C.about("promise 5: FULL, also when range 0 is the last to begin");
    Supplier<NestRanges> zero = () -> Texts.with(0, 30, 40, 0, 0, 20, 0, 0, 20, 0, 0, 20, 0, 0, 20, 0, 0, 20);
    CALLS.full("moves(0, 5, 15)", zero, x -> x.moves(0, 5, 15));
    CALLS.full("moves(0, 19, 40)", zero, x -> x.moves(0, 19, 40));
    CALLS.edit("moves(0, 20, 40)", zero, x -> x.moves(0, 20, 40), 10);
    C.about("promise 5: where it was does not count, nor that there are eight");
    CALLS.edit("moves(4, 4, 10)", five, x -> x.moves(4, 4, 10), 2);
    CALLS.edit("moves(0, 5, 9)", five, x -> x.moves(0, 5, 9), 0);
  }

  private static void kind() {
    C.about("promise 6: BAD");
    for (int w : WILD) {
      CALLS.bad("kind(" + w + ", 0)", USUAL, x -> x.kind(w, 0));
      CALLS.bad("kind(0, " + w + ")", USUAL, x -> x.kind(0, w));
    }
    CALLS.bad("kind(4, 0)", USUAL, x -> x.kind(4, 0));
    CALLS.bad("kind(0, 4)", USUAL, x -> x.kind(0, 4));
    CALLS.bad("kind(0, 0) of none", NestRanges::new, x -> x.kind(0, 0));
    C.about("promise 6: which it was");
    CALLS.edit("kind(0, 0)", USUAL, x -> x.kind(0, 0), 1);
    CALLS.edit("kind(0, 3)", USUAL, x -> x.kind(0, 3), 1);
    CALLS.edit("kind(0, 1), as it was", USUAL, x -> x.kind(0, 1), 1);
    CALLS.edit("kind(3, 0) of an empty one", USUAL, x -> x.kind(3, 0), 2);
  }

  private static void rank() {
    C.about("promise 7: BAD");
    for (int w : WILD) {
      CALLS.bad("rank(" + w + ", 0)", USUAL, x -> x.rank(w, 0));
      CALLS.bad("rank(0, " + w + ")", USUAL, x -> x.rank(0, w));
    }
    CALLS.bad("rank(4, 0)", USUAL, x -> x.rank(4, 0));
    CALLS.bad("rank(0, 4)", USUAL, x -> x.rank(0, 4));
    C.about("promise 7: what it was");
    CALLS.edit("rank(0, 0), as it was", USUAL, x -> x.rank(0, 0), 0);
    CALLS.edit("rank(0, 3)", USUAL, x -> x.rank(0, 3), 0);
    CALLS.edit("rank(3, 0)", USUAL, x -> x.rank(3, 0), 2);
    CALLS.edit("rank(3, 3)", USUAL, x -> x.rank(3, 3), 2);
    CALLS.edit("rank(3, 3) of no range", NestRanges::new, x -> x.rank(3, 3), 3);
  }

  private static void puts() {
    C.about("promise 8: BAD, n (1 .. 90)");
    for (int w : WILD) {
      CALLS.bad("puts(0, " + w + ")", USUAL, x -> x.puts(0, w));
      CALLS.bad("puts(" + w + ", 1)", USUAL, x -> x.puts(w, 1));
      CALLS.bad("puts(" + w + ", " + w + ")", USUAL, x -> x.puts(w, w));
    }
    CALLS.bad("puts(0, 0)", USUAL, x -> x.puts(0, 0));
    CALLS.bad("puts(0, 91)", USUAL, x -> x.puts(0, 91));
    CALLS.bad("puts(0, 91) into none", () -> Texts.of(0), x -> x.puts(0, 91));
    C.about("promise 8: BAD, p lies in the text or at its end");
    CALLS.edit("puts(0, 1)", USUAL, x -> x.puts(0, 1), 46);
    CALLS.edit("puts(45, 1)", USUAL, x -> x.puts(45, 1), 46);
    CALLS.bad("puts(46, 1)", USUAL, x -> x.puts(46, 1));
    CALLS.edit("puts(0, 1) into none", () -> Texts.of(0), x -> x.puts(0, 1), 1);
    CALLS.bad("puts(1, 1) into none", () -> Texts.of(0), x -> x.puts(1, 1));
    CALLS.bad("puts(91, 1)", () -> Texts.of(90), x -> x.puts(91, 1));
    C.about("promise 8: FULL");
    CALLS.edit("puts(20, 45)", USUAL, x -> x.puts(20, 45), 90);
    CALLS.full("puts(20, 46)", USUAL, x -> x.puts(20, 46));
    CALLS.full("puts(20, 90)", USUAL, x -> x.puts(20, 90));
    CALLS.edit("puts(0, 90) into none", () -> Texts.of(0), x -> x.puts(0, 90), 90);
    CALLS.full("puts(0, 90) into one", () -> Texts.of(1), x -> x.puts(0, 90));
    CALLS.full("puts(0, 1) into ninety", () -> Texts.of(90), x -> x.puts(0, 1));
  }

  private static void takes() {
    C.about("promise 9: BAD");
    for (int w : WILD) {
      CALLS.bad("takes(" + w + ", 1)", USUAL, x -> x.takes(w, 1));
      CALLS.bad("takes(0, " + w + ")", USUAL, x -> x.takes(0, w));
      CALLS.bad("takes(" + w + ", " + w + ")", USUAL, x -> x.takes(w, w));
    }
    CALLS.bad("takes(MIN, MAX)", USUAL, x -> x.takes(MIN, MAX));
    CALLS.bad("takes(MAX, MIN)", USUAL, x -> x.takes(MAX, MIN));
    C.about("promise 9: q above p");
    CALLS.edit("takes(20, 21)", USUAL, x -> x.takes(20, 21), 44);
    CALLS.bad("takes(20, 20)", USUAL, x -> x.takes(20, 20));
    CALLS.bad("takes(21, 20)", USUAL, x -> x.takes(21, 20));
    CALLS.bad("takes(0, 0)", USUAL, x -> x.takes(0, 0));
    CALLS.bad("takes(45, 45)", USUAL, x -> x.takes(45, 45));
    C.about("promise 9: from 0, to L");
    CALLS.edit("takes(0, 45)", USUAL, x -> x.takes(0, 45), 0);
    CALLS.edit("takes(0, 1)", USUAL, x -> x.takes(0, 1), 44);
    CALLS.edit("takes(44, 45)", USUAL, x -> x.takes(44, 45), 44);
    CALLS.bad("takes(44, 46)", USUAL, x -> x.takes(44, 46));
    CALLS.bad("takes(45, 46)", USUAL, x -> x.takes(45, 46));
    CALLS.bad("takes(0, 46)", USUAL, x -> x.takes(0, 46));
    CALLS.edit("takes(0, 90)", () -> Texts.of(90, 0, 0, 90), x -> x.takes(0, 90), 0);
    CALLS.bad("takes(0, 0) of none", () -> Texts.of(0), x -> x.takes(0, 0));
  }

  private static void joins() {
    C.about("promise 10: BAD");
    for (int w : WILD) CALLS.bad("joins(" + w + ")", USUAL, x -> x.joins(w));
    CALLS.bad("joins(4)", USUAL, x -> x.joins(4));
    C.about("promise 10: ranges that touch");
    joined(1, "0 5 15", 0, 5, 10, 0, 10, 15);
    joined(1, "0 5 15", 0, 10, 15, 0, 5, 10);
    C.about("promise 10: ranges one place apart do not touch");
    joined(0, "0 5 10, 0 11 15", 0, 5, 10, 0, 11, 15);
    C.about("promise 10: ranges with places in common");
    joined(1, "0 5 15", 0, 5, 10, 0, 9, 15);
    joined(1, "0 5 15", 0, 5, 15, 0, 8, 9);
    joined(1, "0 5 15", 0, 8, 9, 0, 5, 15);
    joined(1, "0 5 15", 0, 5, 15, 0, 5, 15);
    C.about("promise 10: of that kind alone");
    joined(0, "0 5 10, 1 5 10", 0, 5, 10, 1, 5, 10);
    joined(0, "1 5 10, 1 5 10", 1, 5, 10, 1, 5, 10);
    C.about("promise 10: ranges that are not empty");
    joined(0, "0 5 10, 0 7 7, 0 10 10, 0 5 5", 0, 5, 10, 0, 7, 7, 0, 10, 10, 0, 5, 5);
    joined(0, "0 7 7, 0 7 7", 0, 7, 7, 0, 7, 7);
    joined(0, "0 5 7, 0 7 7, 0 8 10", 0, 5, 7, 0, 7, 7, 0, 8, 10);
  }

  private static void joined(int dropped, String left, int... ranges) {
    NestRanges x = Texts.with(ranges);
    C.due("joins(0)", x.joins(0), dropped);
    C.same("ranges behind joins(0)", Texts.ranges(x), left);
    C.due("told(6)", x.told(6), ranges.length / 3 + 1);
  }

  private static void joinsOfMany() {
    C.about("promise 10: the one of least number stays, from the least a to the greatest b");
    joined(2, "1 0 1, 0 5 30, 2 0 1", 1, 0, 1, 0, 20, 25, 0, 5, 20, 2, 0, 1, 0, 25, 30);
    C.about("promise 10: all that hang together, in whatever order they come");
    joined(7, "0 0 40", 0, 0, 5, 0, 35, 40, 0, 5, 10, 0, 30, 35, 0, 10, 15, 0, 25, 30, 0, 15, 20, 0, 20, 25);
    joined(3, "0 0 40", 0, 39, 40, 0, 0, 1, 0, 38, 39, 0, 1, 38);
    C.about("promise 10: become one each");
    joined(2, "0 0 10, 0 20 30", 0, 0, 5, 0, 20, 25, 0, 5, 10, 0, 25, 30);
    C.about("promise 10: none, and still an edit");
    CALLS.edit("joins(0) of no range", NestRanges::new, x -> x.joins(0), 0);
    CALLS.edit("joins(3)", USUAL, x -> x.joins(3), 0);
    CALLS.edit("joins(1)", USUAL, x -> x.joins(1), 1);
    C.about("promise 10: five over one section stay five at most");
    NestRanges x = Texts.with(0, 0, 10, 0, 10, 20, 1, 0, 20, 1, 0, 20, 1, 0, 20, 1, 0, 20);
    C.due("joins(0)", x.joins(0), 1);
    C.same("sections", Texts.sections(x), "0 20 5");
  }

  private static void splits() {
    C.about("promise 11: BAD");
    for (int w : WILD) CALLS.bad("splits(" + w + ")", USUAL, x -> x.splits(w));
    CALLS.bad("splits(4)", USUAL, x -> x.splits(4));
    C.about("promise 11: none comes, and still an edit");
    CALLS.edit("splits(0) of no range", NestRanges::new, x -> x.splits(0), 0);
    CALLS.edit("splits(3) of no range of that kind", USUAL, x -> x.splits(3), 0);
    CALLS.edit("splits(0) of one piece", USUAL, x -> x.splits(0), 0);
    CALLS.edit("splits(2) of an empty one", USUAL, x -> x.splits(2), 0);
    CALLS.edit("splits(1)", USUAL, x -> x.splits(1), 2);
    C.about("promise 11: the first one stays with its number, others behind all, by numbers, then by where they begin");
    NestRanges x = Texts.with(3, 0, 30, 3, 0, 40, 0, 10, 20);
    C.due("splits(3)", x.splits(3), 4);
    C.same("ranges", Texts.ranges(x), "3 0 10, 3 0 10, 0 10 20, 3 10 20, 3 20 30, 3 10 20, 3 20 40");
    C.due("least()", x.least(), 0);
    C.about("promise 11: an empty one stays as it is");
    NestRanges y = Texts.with(3, 7, 7, 3, 0, 40, 0, 7, 9, 3, 7, 7);
    C.due("splits(3)", y.splits(3), 2);
    C.same("ranges", Texts.ranges(y), "3 7 7, 3 0 7, 0 7 9, 3 7 7, 3 7 9, 3 9 40");
  }

  private static void splitsUpToEight() {
    C.about("promise 11: FULL (nothing is done)");
    // a long range is in two more pieces for each short one that goes outside it
    Supplier<NestRanges> eight = () -> Texts.with(3, 0, 40, 0, 1, 2, 0, 3, 4, 2, 9, 9);
    CALLS.edit("splits(3), 8", eight, x -> x.splits(3), 4);
    Supplier<NestRanges> nine = () -> Texts.with(3, 0, 40, 0, 1, 2, 0, 3, 4, 2, 9, 9, 2, 9, 9);
    CALLS.full("splits(3), 9", nine, x -> x.splits(3));
    CALLS.bad("splits(4)", nine, x -> x.splits(4));
    CALLS.edit("splits(0)", nine, x -> x.splits(0), 0);
    Supplier<NestRanges> two = () -> Texts.with(3, 0, 40, 3, 0, 40, 0, 1, 2, 0, 3, 4);
    CALLS.full("splits(3), 12", two, x -> x.splits(3));
    Supplier<NestRanges> many = () -> Texts.with(3, 0, 40, 3, 0, 40, 3, 0, 40, 3, 0, 40, 0, 1, 2, 0, 3, 4, 0, 5, 6, 0, 7, 8);
    CALLS.full("splits(3), 40", many, x -> x.splits(3));
    CALLS.edit("splits(0) of eight", many, x -> x.splits(0), 0);
  }

  private static void undo() {
    C.about("promise 12: NO, none can");
    CALLS.refused("undo() of a new one", NestRanges::new, x -> x.undo(), -3);
    CALLS.refused("undo() behind anew", () -> Texts.of(7), x -> x.undo(), -3);
    CALLS.refused("undo() behind refused ones", () -> {
      NestRanges x = new NestRanges();
      x.range(4, 0, 0);
      x.puts(0, 90);
      return x;
    }, x -> x.undo(), -3);
    C.about("promise 12: how many can be yet");
    NestRanges x = Texts.with(0, 0, 1, 0, 1, 2);
    C.due("undo()", x.undo(), 1);
    C.due("undo()", x.undo(), 0);
    C.due("undo()", x.undo(), -3);
    C.due("undo()", x.undo(), -3);
    C.due("told(1)", x.told(1), 2);
    C.about("promise 12: what was asked or refused in between is not undone");
    NestRanges y = Texts.with(0, 0, 20, 0, 10, 30);
    y.nodes();
    y.drop(7);
    y.free();
    C.due("undo()", y.undo(), 1);
    C.same("ranges", Texts.ranges(y), "0 0 20");
    C.due("nodes()", y.nodes(), 1);
    C.due("told(0)", y.told(0), 1);
  }

  private static void of() {
    C.about("promise 13: BAD");
    for (int w : WILD) {
      CALLS.bad("of(" + w + ", 0)", USUAL, x -> x.of(w, 0));
      CALLS.bad("of(0, " + w + ")", USUAL, x -> x.of(0, w));
      CALLS.bad("of(" + w + ", " + w + ")", USUAL, x -> x.of(w, w));
    }
    CALLS.bad("of(0, 5)", USUAL, x -> x.of(0, 5));
    for (int w = 0; w < 5; w++) {
      int what = w;
      CALLS.bad("of(4, " + w + ")", USUAL, x -> x.of(4, what));
      CALLS.bad("of(0, " + w + ") of none", NestRanges::new, x -> x.of(0, what));
    }
    C.about("promise 13: how many pieces (empty: 0)");
    CALLS.asked("of(3, 3)", USUAL, x -> x.of(3, 3), 0);
    CALLS.asked("of(1, 3)", USUAL, x -> x.of(1, 3), 1);
    CALLS.asked("of(0, 3)", USUAL, x -> x.of(0, 3), 2);
    NestRanges nine = Texts.with(3, 0, 40, 0, 1, 2, 0, 3, 4, 0, 5, 6, 0, 7, 8, 0, 9, 10, 0, 11, 12, 0, 13, 14);
    C.due("of(0, 3), the most", nine.of(0, 3), 15);
  }

  private static void lieAcross(int want, int a, int b, int c, int d) {
    NestRanges x = Texts.with(0, a, b, 0, c, d);
    C.due("of(0, 4), " + a + " to " + b + " and " + c + " to " + d, x.of(0, 4), want);
    C.due("of(1, 4), " + a + " to " + b + " and " + c + " to " + d, x.of(1, 4), want);
  }

  private static void across() {
    C.about("promise 13: lies across, if some places are in common");
    lieAcross(1, 5, 10, 9, 15);
    lieAcross(0, 5, 10, 10, 15);
    lieAcross(0, 5, 10, 11, 15);
    C.about("promise 13: lies across, if both have places that the other has not");
    lieAcross(0, 5, 10, 5, 10);
    lieAcross(0, 5, 10, 5, 11);
    lieAcross(0, 5, 10, 4, 10);
    lieAcross(0, 5, 10, 4, 11);
    lieAcross(1, 5, 10, 6, 11);
    lieAcross(1, 5, 10, 4, 9);
    C.about("promise 13: an empty one has no places");
    lieAcross(0, 5, 10, 7, 7);
    lieAcross(0, 5, 10, 5, 5);
    lieAcross(0, 7, 7, 7, 7);
    C.about("promise 13: how many other ranges");
    C.due("of(0, 4) of one", Texts.with(0, 5, 10).of(0, 4), 0);
    NestRanges x = Texts.with(0, 10, 30, 0, 5, 11, 0, 4, 12, 0, 3, 13, 0, 20, 31, 0, 21, 32, 0, 22, 33, 0, 2, 14);
    C.due("of(0, 4) of eight", x.of(0, 4), 7);
    C.due("of(1, 4) of eight", x.of(1, 4), 1);
  }

  private static void over() {
    C.about("promise 14: BAD, p not 0 .. L less 1");
    for (int w : WILD) CALLS.bad("over(" + w + ")", USUAL, x -> x.over(w));
    CALLS.asked("over(0)", USUAL, x -> x.over(0), 1);
    CALLS.asked("over(44)", USUAL, x -> x.over(44), 0);
    CALLS.bad("over(45)", USUAL, x -> x.over(45));
    CALLS.bad("over(0) of no place", () -> Texts.of(0), x -> x.over(0));
    CALLS.asked("over(0) of one place", () -> Texts.of(1), x -> x.over(0), 0);
    CALLS.bad("over(1) of one place", () -> Texts.of(1), x -> x.over(1));
    CALLS.asked("over(89)", () -> Texts.of(90, 0, 89, 90), x -> x.over(89), 1);
    CALLS.bad("over(90)", () -> Texts.of(90, 0, 89, 90), x -> x.over(90));
    C.about("promise 14: a not above p, b above it");
    NestRanges x = Texts.with(0, 5, 10);
    int[][] want = {{4, 0}, {5, 1}, {9, 1}, {10, 0}};
    for (int[] w : want) C.due("over(" + w[0] + ")", x.over(w[0]), w[1]);
    C.about("promise 14: an empty one covers no place");
    C.due("over(5)", Texts.with(0, 5, 5).over(5), 0);
    C.due("over(4)", Texts.with(0, 5, 5).over(4), 0);
    C.about("promise 14: as bits, up to range 7");
    NestRanges y = Texts.with(0, 1, 1, 0, 5, 9, 0, 1, 1, 0, 5, 9, 0, 5, 9, 0, 1, 1, 0, 5, 9, 0, 5, 9);
    C.due("over(5)", y.over(5), 2 + 8 + 16 + 64 + 128);
  }

  private static void section() {
    C.about("promise 15: BAD");
    for (int w : WILD) {
      CALLS.bad("section(" + w + ", 0)", USUAL, x -> x.section(w, 0));
      CALLS.bad("section(0, " + w + ")", USUAL, x -> x.section(0, w));
      CALLS.bad("section(" + w + ", " + w + ")", USUAL, x -> x.section(w, w));
    }
    CALLS.bad("section(0, 3)", USUAL, x -> x.section(0, 3));
    CALLS.asked("section(3, 1), the last", USUAL, x -> x.section(3, 1), 35);
    CALLS.bad("section(4, 1)", USUAL, x -> x.section(4, 1));
    CALLS.bad("section(0, 0) of none", NestRanges::new, x -> x.section(0, 0));
    CALLS.bad("section(0, 0) of empty ones", () -> Texts.with(0, 5, 5, 0, 6, 6), x -> x.section(0, 0));
    C.about("promise 15: how many ranges cover it, from 0 to 5");
    NestRanges x = Texts.with(0, 0, 5, 0, 10, 20, 0, 11, 20, 0, 12, 20, 0, 13, 20, 0, 14, 20);
    int[] want = {1, 0, 1, 2, 3, 4, 5};
    for (int s = 0; s < 7; s++) C.due("section(" + s + ", 2)", x.section(s, 2), want[s]);
    C.about("promise 15: the fifteenth is the last there can be");
    NestRanges y = Texts.of(90, 0, 0, 1, 0, 2, 3, 0, 4, 5, 0, 6, 7, 0, 8, 9, 0, 10, 11, 0, 12, 13, 0, 14, 90);
    C.due("section(14, 0)", y.section(14, 0), 14);
    C.due("section(14, 1)", y.section(14, 1), 90);
    C.due("section(15, 0)", y.section(15, 0), -2);
  }

  private static void stack() {
    C.about("promise 16: BAD");
    for (int w : WILD) {
      CALLS.bad("stack(" + w + ", 0)", USUAL, x -> x.stack(w, 0));
      CALLS.bad("stack(" + w + ", " + w + ")", USUAL, x -> x.stack(w, w));
    }
    CALLS.bad("stack(4, 0)", USUAL, x -> x.stack(4, 0));
    CALLS.bad("stack(4, MAX)", USUAL, x -> x.stack(4, MAX));
    CALLS.bad("stack(0, 0) of none", NestRanges::new, x -> x.stack(0, 0));
    C.about("promise 16: BAD, k below 0, too");
    CALLS.bad("stack(0, -1)", USUAL, x -> x.stack(0, -1));
    CALLS.bad("stack(0, MIN)", USUAL, x -> x.stack(0, MIN));
    C.about("promise 16: NONE, it has fewer");
    CALLS.asked("stack(0, 0)", USUAL, x -> x.stack(0, 0), 0);
    CALLS.asked("stack(0, 1)", USUAL, x -> x.stack(0, 1), -1);
    CALLS.asked("stack(0, MAX)", USUAL, x -> x.stack(0, MAX), -1);
    CALLS.asked("stack(1, 1)", USUAL, x -> x.stack(1, 1), 0);
    CALLS.asked("stack(1, 2)", USUAL, x -> x.stack(1, 2), -1);
    CALLS.asked("stack(1, 0), nothing covers it", () -> Texts.with(0, 0, 1, 0, 2, 3), x -> x.stack(1, 0), -1);
    Supplier<NestRanges> five = () -> Texts.with(0, 1, 9, 0, 1, 9, 0, 1, 9, 0, 1, 9, 0, 1, 9);
    CALLS.asked("stack(0, 4) of five", five, x -> x.stack(0, 4), 4);
    for (int k : new int[] {5, 6, 7, 8, 16, 31, 32, 1 << 30}) CALLS.asked("stack(0, " + k + ")", five, x -> x.stack(0, k), -1);
  }

  private static void least() {
    C.about("promise 17: none");
    C.due("least()", new NestRanges().least(), 0);
    C.due("least() of no place", Texts.of(0, 0, 0, 0).least(), 0);
    C.due("least() of empty ones", Texts.with(0, 1, 1, 3, 1, 1).least(), 0);
    C.due("least() of one section", Texts.with(3, 1, 9, 0, 1, 9, 2, 1, 9).least(), 0);
    C.about("promise 17: the most there are");
    C.due("least()", longAndShort(4, 4).least(), 32);
    C.due("least()", longAndShort(3, 5).least(), 30);
    C.due("least() of fifteen sections", longAndShort(1, 7).least(), 14);
    C.about("promise 17: asking changes nothing");
    CALLS.asked("least()", USUAL, x -> x.least(), 2);
  }

  /** Long ranges and short ones that go outside them: each cut splits all the long ones. */
  private static NestRanges longAndShort(int longs, int shorts) {
    NestRanges x = new NestRanges();
    for (int i = 0; i < longs; i++) x.range(3, 0, 40);
    for (int i = 0; i < shorts; i++) x.range(0, 5 * i + 1, 5 * i + 3);
    return x;
  }

  private static void ways() {
    C.about("promise 18: one way, where there is nothing to choose");
    C.due("ways()", new NestRanges().ways(), 1);
    C.due("ways() of empty ones", Texts.with(0, 1, 1, 0, 1, 1).ways(), 1);
    C.due("ways() of one", Texts.with(0, 1, 9).ways(), 1);
    C.due("ways() with a gap", Texts.with(0, 1, 9, 0, 20, 30).ways(), 1);
    C.about("promise 18: five of one rank in one section");
    C.due("ways()", Texts.with(0, 1, 9, 0, 1, 9, 0, 1, 9, 0, 1, 9, 0, 1, 9).ways(), 120);
    C.about("promise 18: like nests by hand");
    C.due("ways(), either may be split", Texts.with(0, 0, 20, 0, 10, 30).ways(), 2);
    C.due("ways(), three alike go on", Texts.with(0, 0, 20, 0, 0, 20, 0, 0, 20, 0, 0, 10).ways(), 6);
    C.due("ways(), four alike go on", Texts.with(0, 0, 20, 0, 0, 20, 0, 0, 20, 0, 0, 20, 0, 0, 10).ways(), 24);
    C.due("ways(), three alike come from before", Texts.with(0, 0, 20, 0, 0, 20, 0, 0, 20, 0, 10, 20).ways(), 6);
    C.due("ways(), three of a step", Texts.with(0, 30, 40, 0, 20, 40, 0, 0, 30).ways(), 3);
    C.due("ways(), ranks tell some", Texts.with(1, 10, 40, 0, 10, 20, 0, 10, 30, 0, 20, 40).ways(), 3);
    C.about("promise 18: below 1000000000");
    C.due("ways(), 6 to the 11th", longAndShort(3, 5).ways(), 362797056);
    // nine sections: in each the order of its long ones is free, as each cut splits them all
    C.due("ways(), 24 to the 3rd, 6 to the 6th", withEnds(6, 40).ways(), 644972544);
    C.due("ways(), 24 to the 4th, 6 to the 4th, 2", withEnds(8, 18).ways(), 859963392);
    C.about("promise 18: 1000000000 at most");
    C.due("ways(), 24 to the 4th, 6 to the 5th", withEnds(8, 40).ways(), 1000000000);
    C.due("ways(), 24 to the 5th, 6 to the 4th", withEnds(11, 40).ways(), 1000000000);
    C.due("ways(), 24 to the 9th", longAndShort(4, 4).ways(), 1000000000);
  }

  /** Four long ranges and four short ones that split them, the first two long ones ending sooner. */
  private static NestRanges withEnds(int first, int second) {
    NestRanges x = longAndShort(4, 4);
    x.moves(0, 0, first);
    x.moves(1, 0, second);
    return x;
  }

  private static void plain() {
    C.about("promise 19: none");
    C.due("plain()", new NestRanges().plain(), 0);
    C.due("plain() of empty ones", Texts.with(0, 1, 1, 0, 1, 1).plain(), 0);
    C.due("plain() of one", Texts.with(0, 1, 9).plain(), 0);
    C.about("promise 19: the least stack in each section, by ranks first");
    C.due("plain()", Texts.with(0, 0, 10, 0, 0, 30).plain(), 1);
    C.due("plain()", Texts.with(1, 0, 10, 0, 0, 30).plain(), 0);
    C.due("plain()", Texts.with(0, 0, 10, 1, 0, 30).plain(), 1);
    C.due("plain(), the most", longAndShort(4, 4).plain(), 32);
    C.due("plain() of fifteen sections", longAndShort(1, 7).plain(), 14);
    CALLS.asked("plain()", USUAL, x -> x.plain(), 2);
  }

  private static void free() {
    C.about("promise 20: none");
    C.due("free()", new NestRanges().free(), 0);
    C.due("free() of empty ones", Texts.with(0, 1, 1, 3, 1, 1).free(), 0);
    C.about("promise 20: were all ranks 0; they stay as they are");
    // 1 within 0, then within 2: it is split once; by ranks it goes outside and splits both
    CALLS.asked("free()", USUAL, x -> x.free(), 1);
    CALLS.asked("free()", () -> longAndShort(4, 4), x -> x.free(), 0);
    NestRanges x = longAndShort(4, 4);
    x.free();
    C.due("least() behind free()", x.least(), 32);
    C.due("plain() behind free()", x.plain(), 32);
    C.due("ways() behind free()", x.ways(), 1000000000);
    C.about("promise 20: all ranges count, the first and the last one, too");
    C.due("free()", Texts.with(3, 0, 20, 0, 10, 30).free(), 1);
    C.due("free()", Texts.with(3, 5, 5, 3, 0, 20, 0, 10, 30, 0, 40, 40).free(), 1);
    // 0 across 1, and the last one across 4: leaving any of these out would tell 1
    C.due("free()", Texts.with(0, 0, 4, 1, 2, 6, 2, 8, 8, 3, 9, 9, 2, 10, 14, 1, 12, 16).free(), 2);
    C.about("promise 20: as many, where all ranks are 0");
    for (int k = 0; k < 4; k++) x.rank(k, 0);
    C.due("least()", x.least(), 0);
    C.due("free()", x.free(), 0);
  }

  private static void without() {
    C.about("promise 21: BAD");
    for (int w : WILD) CALLS.bad("without(" + w + ")", USUAL, x -> x.without(w));
    CALLS.bad("without(2)", USUAL, x -> x.without(2));
    CALLS.bad("without(2) of none", NestRanges::new, x -> x.without(2));
    C.about("promise 21: NONE, there is none");
    CALLS.asked("without(0)", NestRanges::new, x -> x.without(0), -1);
    CALLS.asked("without(1)", NestRanges::new, x -> x.without(1), -1);
    C.about("promise 21: of like ones the least");
    CALLS.asked("without(0) of one", () -> Texts.with(0, 5, 9), x -> x.without(0), 0);
    CALLS.asked("without(1) of one", () -> Texts.with(0, 5, 9), x -> x.without(1), 0);
    CALLS.asked("without(0) of empty ones", () -> Texts.with(0, 5, 5, 0, 5, 5), x -> x.without(0), 0);
    CALLS.asked("without(0)", () -> Texts.with(0, 0, 9, 0, 5, 15), x -> x.without(0), 0);
    CALLS.asked("without(0), the last is the one", () -> Texts.with(3, 0, 10, 3, 20, 30, 0, 5, 25), x -> x.without(0), 2);
    C.about("promise 21: fewest, though an empty one comes first");
    CALLS.asked("without(0)", () -> Texts.with(0, 5, 5, 0, 0, 9, 0, 5, 15), x -> x.without(0), 1);
    CALLS.asked("without(1)", () -> Texts.with(0, 5, 5, 0, 0, 9, 0, 5, 15), x -> x.without(1), 0);
    C.about("promise 21: fewest, by the others alone");
    Supplier<NestRanges> last = () -> Texts.with(0, 10, 20, 0, 20, 30, 3, 0, 40);
    CALLS.asked("without(0)", last, x -> x.without(0), 2);
    CALLS.asked("without(1)", last, x -> x.without(1), 0);
    C.about("promise 21: range 7");
    CALLS.asked("without(0) of eight", () -> Texts.with(0, 1, 1, 0, 1, 1, 0, 1, 1, 0, 1, 1, 0, 1, 1, 3, 0, 10, 3, 20, 30, 0, 5, 25),
      x -> x.without(0), 7);
    CALLS.asked("without(1) of eight", () -> longAndShort(4, 4), x -> x.without(1), 24);
    CALLS.asked("without(0) of eight", () -> longAndShort(4, 4), x -> x.without(0), 0);
  }

  private static void nodes() {
    C.about("promise 22: none");
    C.due("nodes()", new NestRanges().nodes(), 0);
    C.about("promise 22: each empty one is one, each piece is one");
    C.due("nodes()", Texts.with(0, 1, 1, 0, 1, 1, 0, 1, 1, 0, 1, 1, 0, 1, 1, 0, 1, 1, 0, 1, 1, 0, 1, 1).nodes(), 8);
    C.due("nodes()", Texts.with(0, 1, 9).nodes(), 1);
    C.due("nodes()", Texts.of(0, 0, 0, 0).nodes(), 1);
    C.due("nodes(), the most", longAndShort(4, 4).nodes(), 40);
    CALLS.asked("nodes()", USUAL, x -> x.nodes(), 6);
  }

  private static void node() {
    C.about("promise 23: BAD, k below 0, too");
    CALLS.bad("node(-1, 0)", USUAL, x -> x.node(-1, 0));
    CALLS.bad("node(MIN, 0)", USUAL, x -> x.node(MIN, 0));
    CALLS.bad("node(-1, 0) of none", NestRanges::new, x -> x.node(-1, 0));
    C.about("promise 23: BAD");
    for (int w : WILD) CALLS.bad("node(0, " + w + ")", USUAL, x -> x.node(0, w));
    CALLS.bad("node(0, 5)", USUAL, x -> x.node(0, 5));
    CALLS.bad("node(6, 5)", USUAL, x -> x.node(6, 5));
    CALLS.bad("node(0, 5) of none", NestRanges::new, x -> x.node(0, 5));
    C.about("promise 23: NONE, there are fewer");
    for (int w = 0; w < 5; w++) {
      int what = w;
      CALLS.asked("node(6, " + w + ")", USUAL, x -> x.node(6, what), -1);
      CALLS.asked("node(MAX, " + w + ")", USUAL, x -> x.node(MAX, what), -1);
      CALLS.asked("node(0, " + w + ") of none", NestRanges::new, x -> x.node(0, what), -1);
    }
    C.about("promise 23: the last node");
    CALLS.asked("node(5, 0)", USUAL, x -> x.node(5, 0), 2);
    CALLS.asked("node(5, 2)", USUAL, x -> x.node(5, 2), 35);
    NestRanges x = longAndShort(4, 4);
    int[] last = {3, 18, 40, 3, 38};
    for (int w = 0; w < 5; w++) {
      C.due("node(39, " + w + ")", x.node(39, w), last[w]);
      C.due("node(40, " + w + ")", x.node(40, w), -1);
      C.due("node(83, " + w + ")", x.node(83, w), -1);
    }
    C.about("promise 23: the node in which it lies next; NONE");
    C.same("nodes", Texts.nodes(usual()), "0 0 10 0 -1, 3 7 7 1 0, 1 10 30 0 -1, 0 10 20 1 2, 2 20 30 1 2, 2 30 35 0 -1");
  }

  private static void all() {
    C.about("promise 24: BAD");
    for (int w : WILD) CALLS.bad("all(" + w + ")", USUAL, x -> x.all(w));
    CALLS.bad("all(5)", USUAL, x -> x.all(5));
    CALLS.bad("all(5) of none", NestRanges::new, x -> x.all(5));
    C.about("promise 24: no nodes: 0");
    for (int w = 0; w < 5; w++) {
      int what = w;
      CALLS.asked("all(" + w + ")", NestRanges::new, x -> x.all(what), 0);
    }
    C.about("promise 24: empty ones alone");
    int[] empties = {0, 0, 2, 0, 2};
    int[] one = {0, 0, 0, 90, 1};
    int[] nested = {5, 15, 1, 40, 1};
    int[] most = {4, 70, 0, 22, 9};
    for (int w = 0; w < 5; w++) {
      C.due("all(" + w + ")", Texts.with(0, 5, 5, 1, 5, 5).all(w), empties[w]);
      C.due("all(" + w + ") of one", Texts.of(90, 0, 0, 90).all(w), one[w]);
      C.due("all(" + w + ") of five and an empty one",
        Texts.with(0, 0, 40, 0, 0, 40, 0, 0, 40, 0, 0, 40, 0, 0, 40, 0, 9, 9).all(w), nested[w]);
      C.due("all(" + w + ") of forty", longAndShort(4, 4).all(w), most[w]);
    }
  }

  private static void draw() {
    C.about("promise 25: BAD, seed (0 .. 999999)");
    for (int w : WILD) {
      CALLS.bad("draw(" + w + ", 1)", USUAL, x -> x.draw(w, 1));
      CALLS.bad("draw(1, " + w + ")", USUAL, x -> x.draw(1, w));
    }
    CALLS.bad("draw(1000000, 1)", USUAL, x -> x.draw(1000000, 1));
    CALLS.bad("draw(1000000, 0)", USUAL, x -> x.draw(1000000, 0));
    CALLS.edit("draw(999999, 1)", USUAL, x -> x.draw(999999, 1), 1);
    CALLS.edit("draw(0, 1)", USUAL, x -> x.draw(0, 1), 1);
    C.about("promise 25: BAD, n (0 .. 8)");
    CALLS.bad("draw(1, 9)", USUAL, x -> x.draw(1, 9));
    CALLS.edit("draw(1, 0)", USUAL, x -> x.draw(1, 0), 0);
    CALLS.edit("draw(1, 0) of none", NestRanges::new, x -> x.draw(1, 0), 0);
    CALLS.edit("draw(1, 8) into no place", () -> Texts.of(0), x -> x.draw(1, 8), 8);
    C.about("promise 25: the new ranges take the place of all; L, ranks stay");
    NestRanges x = usual();
    x.draw(5, 0);
    int[] want = {0, 0, 0, 0, 45, 0, 7, 122};
    for (int w = 0; w < 8; w++) C.due("told(" + w + ")", x.told(w), want[w]);
    C.about("promise 25: eight take the place of eight");
    NestRanges y = Texts.of(0, 0, 0, 0, 0, 0, 0, 0, 0, 0, 0, 0, 0, 0, 0, 0, 0, 0, 0, 0, 0, 0, 0, 0, 0);
    C.due("draw(3, 8)", y.draw(3, 8), 8);
    C.due("told(2)", y.told(2), 0);
  }

  /** X by the document's words, in numbers without bounds. */
  private static void drawnNumbers() {
    for (int l : new int[] {0, 1, 40, 89, 90}) {
      for (int seed : new int[] {0, 1, 2, 41, 63, 80, 499999, 999998, 999999}) {
        C.about("promise 25: draw(" + seed + ", 8) of " + l + " places");
        NestRanges x = Texts.of(l), y = Texts.of(l);
        BigInteger number = BigInteger.valueOf(seed);
        int left = 0;
        for (int i = 0; i < 8; i++) {
          number = number.multiply(BigInteger.valueOf(1103515245)).add(BigInteger.valueOf(12345))
            .mod(BigInteger.valueOf(2147483648L));
          int one = part(number, 1024, l + 1), other = part(number, 32768, l + 1);
          if (y.range(part(number, 65536, 4), Math.min(one, other), Math.max(one, other)) == -4) left++;
        }
        C.due("draw", x.draw(seed, 8), 8 - left);
        C.same("ranges", Texts.ranges(x), Texts.ranges(y));
        C.due("told(2)", x.told(2), 0);
        C.due("told(6)", x.told(6), 1);
      }
    }
    C.about("promise 25: one by which more than 5 would cover a section is left out, those behind it come");
    NestRanges x = new NestRanges();
    int[][] drawn = {{80, 5, 5}, {80, 6, 5}, {80, 7, 6}, {80, 8, 7}, {63, 6, 5}, {63, 7, 5}, {63, 8, 6}, {41, 8, 5}};
    for (int[] d : drawn) C.due("draw(" + d[0] + ", " + d[1] + ")", x.draw(d[0], d[1]), d[2]);
    C.due("told(2)", x.told(2), 0);
  }

  private static int part(BigInteger x, int by, int left) {
    return x.divide(BigInteger.valueOf(by)).mod(BigInteger.valueOf(left)).intValue();
  }

  private static void told() {
    C.about("promise 26: BAD");
    for (int w : WILD) CALLS.bad("told(" + w + ")", USUAL, x -> x.told(w));
    CALLS.bad("told(8)", USUAL, x -> x.told(8));
    C.about("promise 26: how often refused, each by itself");
    NestRanges x = new NestRanges();
    for (int i = 1; i <= 3; i++) {
      x.told(8);
      C.due("told(0)", x.told(0), i);
    }
    for (int i = 1; i <= 2; i++) {
      x.undo();
      C.due("told(1)", x.told(1), i);
    }
    x.puts(0, 90);
    C.due("told(2)", x.told(2), 1);
    C.due("told(0)", x.told(0), 3);
    C.due("told(1)", x.told(1), 2);
    C.about("promise 26: NONE is no refusal");
    NestRanges y = Texts.with(0, 0, 1);
    y.node(9, 0);
    y.stack(0, 9);
    C.due("told(0)", y.told(0), 0);
    C.about("promise 26: the least and the greatest");
    NestRanges z = Texts.of(90, 0, 0, 1, 0, 2, 3, 0, 4, 5, 0, 6, 7, 0, 8, 9, 0, 10, 11, 0, 12, 13, 0, 14, 90);
    for (int k = 0; k < 4; k++) z.rank(k, 3);
    int[] most = {0, 0, 0, 8, 90, 15, 12, 3333};
    for (int w = 0; w < 8; w++) C.due("told(" + w + ")", z.told(w), most[w]);
    z.anew(0);
    for (int k = 0; k < 4; k++) z.rank(k, 0);
    int[] least = {0, 0, 0, 0, 0, 0, 4, 0};
    for (int w = 0; w < 8; w++) C.due("told(" + w + ")", z.told(w), least[w]);
  }

  private static void digest() {
    C.about("promise 27: no range");
    NestRanges none = new NestRanges();
    C.due("digest()", none.digest(), digestOf(none));
    C.about("promise 27: eight ranges, h wraps around");
    NestRanges x = longAndShort(4, 4);
    x.drop(8);
    x.puts(0, 90);
    C.due("digest()", x.digest(), digestOf(x));
    C.about("promise 27: asking changes nothing");
    CALLS.asked("digest()", USUAL, y -> (int) y.digest(), (int) digestOf(usual()));
  }

  /** In numbers without bounds, of which the lowest 64 bits are a long's. */
  private static long digestOf(NestRanges x) {
    BigInteger h = BigInteger.valueOf(1951);
    for (int w = 0; w < 8; w++) h = next(h, x.told(w));
    for (int r = 0; r < x.told(3); r++) for (int w = 0; w < 3; w++) h = next(h, x.of(r, w));
    return next(next(h, x.least()), x.nodes()).longValue();
  }

  private static BigInteger next(BigInteger h, int v) {
    return h.multiply(BigInteger.valueOf(31)).add(BigInteger.valueOf(v));
  }
}
