import java.util.function.Supplier;
import java.util.function.ToIntFunction;

/** The boundaries that the document's terms and its page of edits name, a test for each sentence. */
public final class TermsTest {
  private static final Check C = new Check();
  private static final Calls CALLS = new Calls(C);

  public static void main(String[] args) {
    calls();
    places();
    numbers();
    kinds();
    spans();
    droppedOnes();
    emptyOnes();
    ranks();
    cuts();
    sections();
    covers();
    fiveCover();
    stacks();
    splits();
    fewestAheadOfLeast();
    pieces();
    emptyOnesWithin();
    orderOfNodes();
    depths();
    twelveEdits();
    undoneWhole();
    putting();
    puttingAtTheEnds();
    taking();
    takingEmptyOnes();
    badAheadOfFull();
    nothingBehindRefused();
    nothingBehindAnotherNest();
    full();
    C.end();
  }

  private static void calls() {
    C.about("an object is used for at most 512 calls");
    NestRanges x = new NestRanges();
    for (int i = 0; i < 255; i++) {
      x.range(0, 1, 2);
      x.undo();
    }
    C.due("call 511, range(3, 1, 2)", x.range(3, 1, 2), 0);
    C.due("call 512, over(1)", x.over(1), 1);
    C.about("what later calls answer is free, but none throws");
    for (int i = 0; i < 3000; i++) {
      x.draw(i, 8);
      x.range(0, 0, 0);
      x.splits(i & 3);
      x.digest();
    }
  }

  private static void places() {
    C.about("a text has L (0 .. 90) places");
    C.due("told(4)", Texts.of(0).told(4), 0);
    C.due("told(4)", Texts.of(90).told(4), 90);
    CALLS.bad("anew(-1)", () -> Texts.of(0), x -> x.anew(-1));
    CALLS.bad("anew(91)", () -> Texts.of(90), x -> x.anew(91));
    CALLS.edit("puts(89, 1)", () -> Texts.of(89), x -> x.puts(89, 1), 90);
    CALLS.full("puts(90, 1)", () -> Texts.of(90), x -> x.puts(90, 1));
    CALLS.edit("takes(0, 1)", () -> Texts.of(1), x -> x.takes(0, 1), 0);
    CALLS.bad("takes(0, 1)", () -> Texts.of(0), x -> x.takes(0, 1));
  }

  private static void numbers() {
    C.about("ranges 0 .. 7, as they come");
    NestRanges x = new NestRanges();
    for (int r = 0; r < 8; r++) C.due("range", x.range(r & 3, 8 - r, 9 - r), r);
    C.same("ranges", Texts.ranges(x), "0 8 9, 1 7 8, 2 6 7, 3 5 6, 0 4 5, 1 3 4, 2 2 3, 3 1 2");
    C.due("range", x.range(0, 0, 1), -4);
    C.due("of(7, 1)", x.of(7, 1), 1);
    C.due("of(8, 1)", x.of(8, 1), -2);
  }

  private static void kinds() {
    C.about("a kind (0 .. 3)");
    CALLS.edit("range(0, 0, 1)", NestRanges::new, x -> x.range(0, 0, 1), 0);
    CALLS.edit("range(3, 0, 1)", NestRanges::new, x -> x.range(3, 0, 1), 0);
    CALLS.bad("range(-1, 0, 1)", NestRanges::new, x -> x.range(-1, 0, 1));
    CALLS.bad("range(4, 0, 1)", NestRanges::new, x -> x.range(4, 0, 1));
  }

  private static void spans() {
    Supplier<NestRanges> ten = () -> Texts.of(10);
    C.about("a range is from a: 0 at least");
    CALLS.edit("range(0, 0, 5)", ten, x -> x.range(0, 0, 5), 0);
    CALLS.bad("range(0, -1, 5)", ten, x -> x.range(0, -1, 5));
    CALLS.bad("range(0, -1, -1)", ten, x -> x.range(0, -1, -1));
    C.about("a not above b");
    CALLS.edit("range(0, 5, 5)", ten, x -> x.range(0, 5, 5), 0);
    CALLS.bad("range(0, 6, 5)", ten, x -> x.range(0, 6, 5));
    C.about("b not above L");
    CALLS.edit("range(0, 5, 10)", ten, x -> x.range(0, 5, 10), 0);
    CALLS.edit("range(0, 10, 10)", ten, x -> x.range(0, 10, 10), 0);
    CALLS.bad("range(0, 5, 11)", ten, x -> x.range(0, 5, 11));
    CALLS.bad("range(0, 11, 11)", ten, x -> x.range(0, 11, 11));
    C.about("b not above L, where L is 0");
    CALLS.edit("range(0, 0, 0)", () -> Texts.of(0), x -> x.range(0, 0, 0), 0);
    CALLS.bad("range(0, 0, 1)", () -> Texts.of(0), x -> x.range(0, 0, 1));
    C.about("b not above L, when L has changed");
    NestRanges x = Texts.of(10);
    x.puts(0, 1);
    C.due("range(0, 11, 11)", x.range(0, 11, 11), 0);
    C.due("range(0, 12, 12)", x.range(0, 12, 12), -2);
    x.takes(0, 2);
    C.due("range(0, 9, 9)", x.range(0, 9, 9), 1);
    C.due("range(0, 10, 10)", x.range(0, 10, 10), -2);
  }

  private static void droppedOnes() {
    C.about("one that is dropped leaves those behind it one number nearer");
    int[] three = {0, 0, 1, 1, 1, 2, 2, 2, 3};
    String[] left = {"1 1 2, 2 2 3", "0 0 1, 2 2 3", "0 0 1, 1 1 2"};
    for (int r = 0; r < 3; r++) {
      NestRanges x = Texts.with(three);
      C.due("drop(" + r + ")", x.drop(r), 2);
      C.same("ranges", Texts.ranges(x), left[r]);
      C.due("range(3, 9, 9)", x.range(3, 9, 9), 2);
    }
    NestRanges all = Texts.with(0, 0, 1, 0, 1, 2, 0, 2, 3, 0, 3, 4, 0, 4, 5, 0, 5, 6, 0, 6, 7, 3, 7, 8);
    C.due("drop(0)", all.drop(0), 7);
    C.same("ranges", Texts.ranges(all), "0 1 2, 0 2 3, 0 3 4, 0 4 5, 0 5 6, 0 6 7, 3 7 8");
    C.due("of(7, 0)", all.of(7, 0), -2);
  }

  private static void emptyOnes() {
    C.about("an empty one has a and b alike");
    NestRanges x = Texts.with(0, 5, 5);
    C.due("told(5)", x.told(5), 0);
    C.due("of(0, 3)", x.of(0, 3), 0);
    C.due("all(2)", x.all(2), 1);
    NestRanges y = Texts.with(0, 5, 6);
    C.due("told(5)", y.told(5), 1);
    C.due("of(0, 3)", y.of(0, 3), 1);
    C.due("all(2)", y.all(2), 0);
  }

  private static void ranks() {
    C.about("each kind's rank is its own number at first");
    C.due("told(7)", new NestRanges().told(7), 123);
    C.same("stacks", Texts.stacks(Texts.with(3, 0, 9, 2, 0, 9, 1, 0, 9, 0, 0, 9)), "3 2 1 0");
    C.about("a rank (0 .. 3)");
    CALLS.edit("rank(1, 0)", NestRanges::new, x -> x.rank(1, 0), 1);
    CALLS.edit("rank(1, 3)", NestRanges::new, x -> x.rank(1, 3), 1);
    CALLS.bad("rank(1, -1)", NestRanges::new, x -> x.rank(1, -1));
    CALLS.bad("rank(1, 4)", NestRanges::new, x -> x.rank(1, 4));
  }

  private static void cuts() {
    C.about("cuts are all unlike a and b");
    C.same("sections", Texts.sections(Texts.with(0, 5, 10, 1, 5, 10)), "5 10 2");
    C.same("sections", Texts.sections(Texts.with(0, 5, 10, 1, 10, 15)), "5 10 1, 10 15 1");
    C.about("cuts are those of ranges that are not empty");
    C.same("sections", Texts.sections(Texts.with(0, 5, 10, 1, 7, 7, 1, 0, 0, 1, 40, 40)), "5 10 1");
    C.same("sections", Texts.sections(Texts.with(0, 5, 5, 1, 7, 7)), "");
    C.about("cuts are rising");
    C.same("sections", Texts.sections(Texts.with(0, 30, 31, 1, 10, 11, 2, 20, 21)),
      "10 11 1, 11 20 0, 20 21 1, 21 30 0, 30 31 1");
    C.about("cuts are sixteen at most");
    NestRanges x = Texts.with(0, 0, 39, 0, 38, 40, 0, 1, 3, 0, 4, 5, 0, 6, 7, 0, 8, 9, 0, 10, 11, 0, 12, 13);
    C.due("told(5)", x.told(5), 15);
    C.due("section(14, 0)", x.section(14, 0), 39);
    C.due("section(14, 1)", x.section(14, 1), 40);
  }

  private static void sections() {
    C.about("a section lies from each cut to the next one");
    C.same("sections of no range", Texts.sections(new NestRanges()), "");
    C.same("sections of one", Texts.sections(Texts.with(0, 0, 40)), "0 40 1");
    C.same("none ahead of the first cut or behind the last", Texts.sections(Texts.with(0, 1, 39)), "1 39 1");
    C.same("one that nothing covers", Texts.sections(Texts.with(0, 0, 10, 0, 11, 40)), "0 10 1, 10 11 0, 11 40 1");
  }

  private static void covers() {
    C.about("a range covers a section, if it begins at its beginning or ahead, ends at its end or behind");
    NestRanges x = Texts.with(0, 5, 10, 1, 5, 20, 2, 0, 10, 3, 0, 20);
    C.same("sections", Texts.sections(x), "0 5 2, 5 10 4, 10 20 2");
    C.same("stacks", Texts.stacks(x), "2 3 | 0 1 2 3 | 1 3");
    C.about("a range covers a section, if it is not empty");
    NestRanges y = Texts.with(0, 5, 10, 0, 5, 5, 0, 7, 7, 0, 10, 10);
    C.same("sections", Texts.sections(y), "5 10 1");
    C.same("stacks", Texts.stacks(y), "0");
  }

  private static void fiveCover() {
    C.about("at most 5 ranges may cover one section");
    int[] five = {0, 10, 20, 1, 10, 20, 2, 10, 20, 3, 10, 20, 0, 10, 20};
    Supplier<NestRanges> made = () -> Texts.with(five);
    C.due("section(0, 2)", made.get().section(0, 2), 5);
    int[][] over = {{10, 20}, {19, 30}, {0, 11}, {14, 15}, {0, 40}, {10, 11}, {19, 20}};
    for (int[] o : over) CALLS.full("range(3, " + o[0] + ", " + o[1] + ")", made, x -> x.range(3, o[0], o[1]));
    int[][] beside = {{0, 10}, {20, 40}, {10, 10}, {15, 15}, {20, 20}};
    for (int[] o : beside) CALLS.edit("range(3, " + o[0] + ", " + o[1] + ")", made, x -> x.range(3, o[0], o[1]), 5);
    NestRanges x = made.get();
    C.due("drop(0)", x.drop(0), 4);
    C.due("range(3, 10, 20)", x.range(3, 10, 20), 4);
  }

  private static void stacks() {
    C.about("each of a kind whose rank is not above that of the next one");
    NestRanges x = Texts.with(1, 0, 20, 0, 10, 20);
    C.same("a rank above: only one way", Texts.stacks(x), "0 | 1 0");
    C.due("least()", x.least(), 1);
    C.due("ways()", x.ways(), 1);
    x.rank(1, 0);
    C.same("ranks alike: either way", Texts.stacks(x), "0 | 0 1");
    C.due("least()", x.least(), 0);
    x.rank(0, 1);
    C.same("a rank below", Texts.stacks(x), "0 | 0 1");
    C.same("a section that nothing covers", Texts.stacks(Texts.with(0, 0, 1, 0, 2, 3)), "0 |  | 1");
    C.same("five", Texts.stacks(Texts.with(0, 1, 9, 1, 1, 9, 0, 1, 9, 1, 1, 9, 0, 1, 9)), "0 2 4 1 3");
  }

  private static void splits() {
    C.about("a range is split, if it is not among those with which both stacks begin alike");
    pieces(Texts.with(0, 0, 20, 0, 0, 10), 0, 1, 1);
    pieces(Texts.with(0, 0, 10, 1, 0, 20), 1, 1, 2);
    pieces(Texts.with(0, 0, 30, 1, 0, 20, 2, 0, 30), 1, 1, 1, 2);
    pieces(Texts.with(1, 0, 30, 0, 10, 20), 2, 3, 1);
    pieces(Texts.with(1, 0, 30, 2, 0, 30, 0, 10, 20), 4, 3, 3, 1);
    C.about("a range is split, if it covers both sections");
    pieces(Texts.with(0, 0, 10, 0, 10, 20), 0, 1, 1);
    pieces(Texts.with(0, 0, 10, 0, 20, 30), 0, 1, 1);
    pieces(Texts.with(1, 0, 20, 0, 0, 10, 0, 10, 20), 1, 2, 1, 1);
  }

  private static void pieces(NestRanges x, int least, int... pieces) {
    C.due("least()", x.least(), least);
    for (int r = 0; r < pieces.length; r++) C.due("of(" + r + ", 3)", x.of(r, 3), pieces[r]);
  }

  private static void fewestAheadOfLeast() {
    C.about("the nest is one with the fewest splits");
    C.same("stacks", Texts.stacks(Texts.with(0, 0, 10, 0, 0, 30)), "1 0 | 1");
    C.same("no section", Texts.stacks(new NestRanges()), "");
    C.about("of like ones the one in which the stack of the first section is the least");
    C.same("stacks", Texts.stacks(Texts.with(0, 0, 9, 0, 0, 9, 0, 0, 9)), "0 1 2");
    // (1 2 0) costs 2 and then 1, (2 1 0) with (2 3 0) costs 1 and then 2: the lesser second one does not help
    C.same("stacks", Texts.stacks(Texts.with(1, 10, 40, 0, 10, 20, 0, 10, 30, 0, 20, 40)), "1 2 0 | 3 2 0 | 3 0");
    C.about("then that of the second one, and so on");
    C.same("stacks", Texts.stacks(Texts.with(0, 30, 40, 0, 20, 40, 0, 0, 30)), "2 | 1 2 | 1 0");
    C.same("stacks", Texts.stacks(Texts.with(0, 10, 30, 0, 0, 20)), "1 | 0 1 | 0");
    C.same("stacks", Texts.stacks(Texts.with(3, 0, 30, 3, 0, 30, 0, 10, 20)), "0 1 | 2 0 1 | 0 1");
  }

  private static void pieces() {
    C.about("a piece: from the beginning of the first section to the end of the last one");
    C.same("nodes", Texts.nodes(Texts.with(0, 0, 40, 1, 10, 20)), "0 0 40 0 -1, 1 10 20 1 0");
    C.same("nodes", Texts.nodes(Texts.with(1, 0, 30, 0, 10, 20)),
      "0 0 10 0 -1, 1 10 20 0 -1, 0 10 20 1 1, 0 20 30 0 -1");
  }

  private static void emptyOnesWithin() {
    C.about("an empty one lies in all pieces that begin ahead of its place");
    C.same("nodes", Texts.nodes(Texts.with(0, 10, 20, 1, 10, 10)), "1 10 10 0 -1, 0 10 20 0 -1");
    C.same("nodes", Texts.nodes(Texts.with(0, 10, 20, 1, 11, 11)), "0 10 20 0 -1, 1 11 11 1 0");
    C.about("an empty one lies in all pieces that end behind its place");
    C.same("nodes", Texts.nodes(Texts.with(0, 10, 20, 1, 20, 20)), "0 10 20 0 -1, 1 20 20 0 -1");
    C.same("nodes", Texts.nodes(Texts.with(0, 10, 20, 1, 19, 19)), "0 10 20 0 -1, 1 19 19 1 0");
    C.about("an empty one where a range is split, and where one goes on");
    C.same("nodes", Texts.nodes(Texts.with(1, 0, 30, 0, 10, 20, 2, 10, 10)),
      "0 0 10 0 -1, 2 10 10 0 -1, 1 10 20 0 -1, 0 10 20 1 2, 0 20 30 0 -1");
    C.same("nodes", Texts.nodes(Texts.with(0, 0, 40, 1, 10, 20, 2, 20, 20)), "0 0 40 0 -1, 1 10 20 1 0, 2 20 20 1 0");
    C.about("an empty one at 0 and at L");
    C.same("nodes", Texts.nodes(Texts.with(0, 0, 40, 1, 0, 0, 1, 40, 40)), "1 0 0 0 -1, 0 0 40 0 -1, 2 40 40 0 -1");
    C.same("nodes", Texts.nodes(Texts.of(0, 0, 0, 0)), "0 0 0 0 -1");
    C.about("an empty one ahead of all pieces, behind them, between them");
    C.same("nodes", Texts.nodes(Texts.with(0, 10, 20, 1, 5, 5, 1, 30, 30)), "1 5 5 0 -1, 0 10 20 0 -1, 2 30 30 0 -1");
    C.same("nodes", Texts.nodes(Texts.with(0, 0, 10, 0, 20, 30, 1, 15, 15)), "0 0 10 0 -1, 2 15 15 0 -1, 1 20 30 0 -1");
    C.about("an empty one does not lie in an empty one");
    C.same("nodes", Texts.nodes(Texts.with(0, 7, 7, 0, 7, 7)), "0 7 7 0 -1, 1 7 7 0 -1");
  }

  private static void orderOfNodes() {
    C.about("nodes come by where they begin, at one place empty ones by numbers ahead, then the outer one first");
    C.same("nodes", Texts.nodes(Texts.with(3, 10, 20, 0, 10, 10, 2, 10, 20, 1, 10, 10)),
      "1 10 10 0 -1, 3 10 10 0 -1, 2 10 20 0 -1, 0 10 20 1 2");
    C.same("nodes", Texts.nodes(Texts.with(0, 20, 30, 0, 30, 30, 0, 0, 0, 0, 10, 20)),
      "2 0 0 0 -1, 3 10 20 0 -1, 0 20 30 0 -1, 1 30 30 0 -1");
  }

  private static void depths() {
    C.about("depth: in how many others one lies");
    NestRanges x = Texts.with(0, 0, 40, 0, 1, 39, 0, 2, 38, 0, 3, 37, 0, 4, 36, 0, 20, 20, 0, 4, 4, 0, 36, 36);
    C.same("nodes", Texts.nodes(x), "0 0 40 0 -1, 1 1 39 1 0, 2 2 38 2 1, 3 3 37 3 2, 6 4 4 4 3, 4 4 36 4 3, "
      + "5 20 20 5 5, 7 36 36 4 3");
  }

  private static void twelveEdits() {
    C.about("edits can be undone, 12 at most; older ones are lost");
    for (int edits : new int[] {1, 11, 12, 13, 14, 24, 25, 37}) {
      NestRanges x = Texts.of(0);
      for (int i = 0; i < edits; i++) x.puts(0, 1);
      int most = Math.min(12, edits);
      C.due("told(6) behind " + edits, x.told(6), most);
      for (int left = most - 1; left >= 0; left--) C.due("undo() behind " + edits, x.undo(), left);
      C.due("told(4) behind " + edits, x.told(4), edits - most);
      C.due("undo() behind " + edits, x.undo(), -3);
      C.due("told(4) behind " + edits, x.told(4), edits - most);
    }
    C.about("edits are undone one by one, also when some came behind an undo");
    NestRanges x = Texts.of(0);
    for (int i = 0; i < 12; i++) x.puts(0, 1);
    for (int i = 0; i < 5; i++) x.undo();
    for (int i = 0; i < 8; i++) x.puts(0, 10);
    C.due("told(6)", x.told(6), 12);
    for (int i = 0; i < 8; i++) {
      C.due("told(4)", x.told(4), 87 - 10 * i);
      C.due("undo()", x.undo(), 11 - i);
    }
    for (int left = 3; left >= 0; left--) C.due("undo()", x.undo(), left);
    C.due("told(4)", x.told(4), 3);
    C.due("undo()", x.undo(), -3);
  }

  private static void undoneWhole() {
    C.about("ranges, ranks, L are as ahead of it then");
    Supplier<NestRanges> made = () -> {
      NestRanges x = Texts.with(3, 0, 12, 1, 5, 17, 3, 10, 22, 2, 8, 8);
      x.rank(1, 0);
      return x;
    };
    CALLS.edit("range(2, 0, 40)", made, x -> x.range(2, 0, 40), 4);
    CALLS.edit("drop(0)", made, x -> x.drop(0), 3);
    CALLS.edit("moves(1, 40, 40)", made, x -> x.moves(1, 40, 40), -12);
    CALLS.edit("kind(1, 3)", made, x -> x.kind(1, 3), 1);
    CALLS.edit("rank(3, 0)", made, x -> x.rank(3, 0), 3);
    CALLS.edit("puts(0, 50)", made, x -> x.puts(0, 50), 90);
    CALLS.edit("takes(0, 40)", made, x -> x.takes(0, 40), 0);
    CALLS.edit("joins(3)", made, x -> x.joins(3), 1);
    CALLS.edit("splits(3)", made, x -> x.splits(3), 3);
    CALLS.edit("draw(1, 0)", made, x -> x.draw(1, 0), 0);
  }

  private static void put(String want, int p, int a, int b) {
    NestRanges x = Texts.of(20, 0, a, b);
    C.due("puts(" + p + ", 3)", x.puts(p, 3), 23);
    C.same("range from " + a + " to " + b + " behind puts(" + p + ", 3)", Texts.ranges(x), want);
  }

  private static void putting() {
    C.about("putting: a, b that are above p go n on");
    put("0 8 13", 4, 5, 10);
    put("0 5 13", 6, 5, 10);
    put("0 5 13", 9, 5, 10);
    put("0 8 8", 4, 5, 5);
    C.about("putting: a that is p goes n on, if the range is not empty");
    put("0 8 13", 5, 5, 10);
    put("0 8 9", 5, 5, 6);
    C.about("putting: b that is p stays");
    put("0 5 10", 10, 5, 10);
    put("0 9 10", 10, 9, 10);
    C.about("putting: a, b below p stay");
    put("0 5 10", 11, 5, 10);
    put("0 5 5", 6, 5, 5);
    C.about("putting: an empty one at p stays");
    put("0 5 5", 5, 5, 5);
  }

  private static void puttingAtTheEnds() {
    C.about("putting at 0");
    put("0 3 8", 0, 0, 5);
    put("0 0 0", 0, 0, 0);
    put("0 3 23", 0, 0, 20);
    C.about("putting at L");
    put("0 15 20", 20, 15, 20);
    put("0 20 20", 20, 20, 20);
    put("0 0 20", 20, 0, 20);
    C.about("putting where one ends and one begins");
    NestRanges x = Texts.of(20, 0, 0, 10, 1, 10, 20, 2, 10, 10, 3, 0, 20);
    x.puts(10, 70);
    C.same("ranges", Texts.ranges(x), "0 0 10, 1 80 90, 2 10 10, 3 0 90");
    C.same("sections", Texts.sections(x), "0 10 2, 10 80 1, 80 90 2");
  }

  private static void take(String want, int p, int q, int a, int b) {
    NestRanges x = Texts.of(30, 0, a, b);
    C.due("takes(" + p + ", " + q + ")", x.takes(p, q), 30 - (q - p));
    C.same("range from " + a + " to " + b + " behind takes(" + p + ", " + q + ")", Texts.ranges(x), want);
  }

  private static void taking() {
    C.about("taking: a, b at q or above go so much back");
    take("0 6 16", 4, 8, 10, 20);
    take("0 5 15", 5, 10, 10, 20);
    take("0 10 15", 15, 20, 10, 20);
    take("0 10 12", 11, 19, 10, 20);
    take("0 0 10", 0, 10, 10, 20);
    C.about("taking: between p and q they become p");
    take("0 5 14", 5, 11, 10, 20);
    take("0 10 15", 15, 25, 10, 20);
    take("0 10 19", 19, 25, 10, 20);
    take("0 9 9", 9, 21, 10, 20);
    take("0 0 0", 0, 30, 10, 20);
    C.about("taking: a, b at p or below stay");
    take("0 10 15", 10, 15, 10, 20);
    take("0 10 20", 20, 25, 10, 20);
    take("0 10 20", 21, 30, 10, 20);
    C.about("taking all of a range and no more leaves it empty");
    take("0 10 10", 10, 20, 10, 20);
    take("0 5 5", 5, 20, 10, 20);
    take("0 10 10", 10, 25, 10, 20);
  }

  private static void takingEmptyOnes() {
    C.about("taking: empty ones");
    take("0 10 10", 10, 15, 10, 10);
    take("0 5 5", 5, 10, 10, 10);
    take("0 5 5", 5, 15, 10, 10);
    take("0 10 10", 11, 15, 10, 10);
    take("0 8 8", 3, 5, 10, 10);
    take("0 0 0", 0, 30, 30, 30);
    C.about("taking: ranges that become empty have no cuts");
    NestRanges x = Texts.of(30, 0, 10, 20, 1, 12, 18);
    x.takes(12, 18);
    C.same("sections", Texts.sections(x), "10 14 1");
    x.takes(9, 15);
    C.same("sections", Texts.sections(x), "");
  }

  private static void badAheadOfFull() {
    C.about("refused by the first of: BAD, FULL");
    Supplier<NestRanges> eight = () ->
      Texts.with(0, 0, 9, 0, 0, 9, 0, 0, 9, 0, 0, 9, 0, 0, 9, 0, 20, 30, 0, 20, 30, 0, 40, 40);
    CALLS.full("range(0, 0, 0)", eight, x -> x.range(0, 0, 0));
    CALLS.bad("range(4, 0, 0)", eight, x -> x.range(4, 0, 0));
    CALLS.bad("range(0, 1, 0)", eight, x -> x.range(0, 1, 0));
    CALLS.bad("range(0, 0, 41)", eight, x -> x.range(0, 0, 41));
    CALLS.full("moves(5, 0, 40)", eight, x -> x.moves(5, 0, 40));
    CALLS.bad("moves(8, 0, 40)", eight, x -> x.moves(8, 0, 40));
    CALLS.bad("moves(5, -1, 40)", eight, x -> x.moves(5, -1, 40));
    CALLS.bad("moves(5, 0, 41)", eight, x -> x.moves(5, 0, 41));
    CALLS.full("puts(40, 51)", eight, x -> x.puts(40, 51));
    CALLS.bad("puts(41, 51)", eight, x -> x.puts(41, 51));
    CALLS.bad("puts(-1, 51)", eight, x -> x.puts(-1, 51));
    CALLS.bad("puts(40, 91)", eight, x -> x.puts(40, 91));
  }

  private static void nothingBehindRefused() {
    C.about("refused, changing nothing: the next edit goes as if it had not been asked");
    Supplier<NestRanges> five = () -> Texts.with(0, 5, 9, 3, 5, 9, 0, 2, 9, 2, 5, 9, 0, 5, 12, 1, 9, 20);
    behindRefused(five, "moves(5, 0, 40)", x -> x.moves(5, 0, 40));
    behindRefused(five, "range(1, 0, 40)", x -> x.range(1, 0, 40));
    behindRefused(five, "puts(0, 51)", x -> x.puts(0, 51));
    behindRefused(five, "drop(6)", x -> x.drop(6));
    behindRefused(() -> Texts.with(3, 0, 40, 0, 1, 2, 0, 3, 7, 2, 9, 9, 1, 6, 12), "splits(3)", x -> x.splits(3));
  }

  private static void behindRefused(Supplier<NestRanges> made, String first, ToIntFunction<NestRanges> refused) {
    C.holds(first + " is refused", refused.applyAsInt(made.get()) < -1);
    CALLS.sameBehind(first, refused, "range(3, 9, 9)", made, x -> x.range(3, 9, 9));
    CALLS.sameBehind(first, refused, "drop(0)", made, x -> x.drop(0));
    CALLS.sameBehind(first, refused, "moves(0, 1, 2)", made, x -> x.moves(0, 1, 2));
    CALLS.sameBehind(first, refused, "kind(0, 3)", made, x -> x.kind(0, 3));
    CALLS.sameBehind(first, refused, "rank(0, 3)", made, x -> x.rank(0, 3));
    CALLS.sameBehind(first, refused, "puts(6, 3)", made, x -> x.puts(6, 3));
    CALLS.sameBehind(first, refused, "takes(6, 11)", made, x -> x.takes(6, 11));
    CALLS.sameBehind(first, refused, "joins(0)", made, x -> x.joins(0));
    CALLS.sameBehind(first, refused, "splits(1)", made, x -> x.splits(1));
    CALLS.sameBehind(first, refused, "draw(7, 3)", made, x -> x.draw(7, 3));
    CALLS.sameBehind(first, refused, "undo()", made, x -> x.undo());
  }

  private static void nothingBehindAnotherNest() {
    C.about("the nest is that of the ranges there are, whatever was asked of those that were");
    Supplier<NestRanges> many = () -> Texts.with(3, 0, 40, 3, 0, 39, 3, 1, 40, 3, 0, 40, 0, 1, 2, 0, 3, 4, 0, 5, 6, 0, 7, 8);
    ToIntFunction<NestRanges> asked = x -> x.nodes() + x.plain() + x.free() + x.without(1) + x.stack(0, 0);
    CALLS.sameBehind("asking", asked, "anew(40)", many, x -> x.anew(40));
    CALLS.sameBehind("asking", asked, "anew(40), range(0, 0, 9)", many, x -> x.anew(40) + x.range(0, 0, 9));
    CALLS.sameBehind("asking", asked, "draw(9, 3)", many, x -> x.draw(9, 3));
    CALLS.sameBehind("asking", asked, "drop(7)", many, x -> x.drop(7));
    CALLS.sameBehind("asking", asked, "takes(1, 8)", many, x -> x.takes(1, 8));
    CALLS.sameBehind("asking", asked, "joins(3)", many, x -> x.joins(3));
    CALLS.sameBehind("asking", asked, "rank(3, 0)", many, x -> x.rank(3, 0));
    CALLS.sameBehind("asking", asked, "kind(4, 3)", many, x -> x.kind(4, 3));
    CALLS.sameBehind("asking", asked, "undo()", many, x -> x.undo());
    CALLS.sameBehind("asking", asked, "undo() of all", many, x -> {
      for (int i = 0; i < 7; i++) x.undo();
      return x.undo();
    });
    CALLS.sameBehind("asking", asked, "drop of seven, splits(3)", many, x -> {
      for (int r = 7; r > 0; r--) x.drop(r);
      return x.splits(3);
    });
    C.about("the nest behind another one, by hand");
    NestRanges x = many.get();
    asked.applyAsInt(x);
    for (int r = 7; r > 0; r--) x.drop(r);
    C.due("all(1)", x.all(1), 0);
    C.due("all(3)", x.all(3), 40);
    C.due("plain()", x.plain(), 0);
    C.due("of(0, 3)", x.of(0, 3), 1);
    C.about("pieces that were are none of a range's pieces");
    NestRanges y = Texts.with(3, 0, 40, 0, 10, 20);
    C.due("of(0, 3)", y.of(0, 3), 3);
    y.moves(1, 40, 40);
    C.due("of(0, 3)", y.of(0, 3), 1);
    C.due("splits(3)", y.splits(3), 0);
    C.same("ranges", Texts.ranges(y), "3 0 40, 0 40 40");
  }

  private static void full() {
    C.about("FULL: there would be more than 8 ranges");
    Supplier<NestRanges> seven = () -> Texts.with(0, 0, 0, 0, 0, 0, 0, 0, 0, 0, 0, 0, 0, 0, 0, 0, 0, 0, 0, 0, 0);
    CALLS.edit("range(0, 0, 0), the eighth", seven, x -> x.range(0, 0, 0), 7);
    NestRanges nine = seven.get();
    nine.range(0, 0, 0);
    C.due("range(0, 0, 0), the ninth", nine.range(0, 0, 0), -4);
    C.about("FULL: a section that more than 5 cover");
    Supplier<NestRanges> four = () -> Texts.with(0, 3, 9, 0, 3, 9, 0, 3, 9, 0, 3, 9, 0, 20, 21);
    CALLS.edit("range(0, 3, 9), the fifth", four, x -> x.range(0, 3, 9), 5);
    CALLS.edit("moves(4, 3, 9), the fifth", four, x -> x.moves(4, 3, 9), 5);
    C.about("FULL: places above 90");
    CALLS.edit("puts(0, 50)", NestRanges::new, x -> x.puts(0, 50), 90);
    CALLS.full("puts(0, 51)", NestRanges::new, x -> x.puts(0, 51));
  }
}
