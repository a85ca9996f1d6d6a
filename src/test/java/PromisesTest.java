import java.util.function.Consumer;

/** Each promise of the document by itself: ordinary inputs, edges, wrong inputs. */
public final class PromisesTest {
  private static final Check C = new Check();
  private static final int MIN = Integer.MIN_VALUE, MAX = Integer.MAX_VALUE;

  public static void main(String[] args) {
    newObject();
    anew();
    range();
    drop();
    moves();
    kind();
    rank();
    puts();
    takes();
    joins();
    splits();
    undo();
    undoOfEachEdit();
    of();
    over();
    section();
    stack();
    stackOfLikeNests();
    least();
    ways();
    plain();
    free();
    without();
    nodes();
    node();
    nodeEmptyOnes();
    all();
    draw();
    told();
    digest();
    C.end();
  }

  private static void due(String call, long got, long want) {
    C.due(call, got, want);
  }

  private static void is(NestRanges x, int r, int kind, int a, int b) {
    due("of(" + r + ", 0)", x.of(r, 0), kind);
    due("of(" + r + ", 1)", x.of(r, 1), a);
    due("of(" + r + ", 2)", x.of(r, 2), b);
  }

  /** An object with ranges of kind, a, b each, in a text of 40 places. */
  private static NestRanges with(int... ranges) {
    NestRanges x = new NestRanges();
    for (int i = 0; i + 2 < ranges.length; i += 3) {
      due("range", x.range(ranges[i], ranges[i + 1], ranges[i + 2]), i / 3);
    }
    return x;
  }

  private static void node(NestRanges x, int k, int range, int from, int to, int depth, int next) {
    int[] want = {range, from, to, depth, next};
    for (int w = 0; w < 5; w++) due("node(" + k + ", " + w + ")", x.node(k, w), want[w]);
  }

  private static void newObject() {
    C.about("promise 1");
    NestRanges x = new NestRanges();
    int[] want = {0, 0, 0, 0, 40, 0, 0, 123};
    for (int w = 0; w < 8; w++) due("told(" + w + ")", x.told(w), want[w]);
    due("over(39)", x.over(39), 0);
    due("over(40)", x.over(40), -2);
    due("undo()", x.undo(), -3);
  }

  private static void anew() {
    C.about("promise 2");
    NestRanges x = with(0, 1, 2, 1, 3, 4);
    x.rank(0, 3);
    due("anew(-1)", x.anew(-1), -2);
    due("anew(91)", x.anew(91), -2);
    due("anew(MIN)", x.anew(MIN), -2);
    due("anew(MAX)", x.anew(MAX), -2);
    due("told(3)", x.told(3), 2);
    due("told(6)", x.told(6), 3);
    due("told(7)", x.told(7), 3123);
    due("anew(90)", x.anew(90), 2);
    int[] want = {4, 0, 0, 0, 90, 0, 0, 123};
    for (int w = 0; w < 8; w++) due("told(" + w + ")", x.told(w), want[w]);
    due("undo()", x.undo(), -3);
    due("anew(0)", x.anew(0), 0);
    due("told(4)", x.told(4), 0);
    due("range(0, 0, 0)", x.range(0, 0, 0), 0);
    due("anew(7)", x.anew(7), 1);
    C.about("promise 2: the nest is gone, too");
    NestRanges y = with(0, 0, 20, 0, 10, 30, 0, 15, 15);
    due("nodes()", y.nodes(), 4);
    due("anew(40)", y.anew(40), 3);
    due("nodes()", y.nodes(), 0);
    due("told(5)", y.told(5), 0);
    due("least()", y.least(), 0);
    due("ways()", y.ways(), 1);
    due("section(0, 0)", y.section(0, 0), -2);
  }

  private static void range() {
    C.about("promise 3");
    NestRanges x = new NestRanges();
    int[][] bad = {{-1, 0, 1}, {4, 0, 1}, {0, -1, 1}, {0, 2, 1}, {0, 0, 41}, {0, 41, 41},
      {MIN, 0, 1}, {MAX, 0, 1}, {0, MIN, 1}, {0, 0, MAX}, {0, MAX, MAX}, {0, MIN, MIN}};
    for (int[] b : bad) due("range", x.range(b[0], b[1], b[2]), -2);
    due("told(0)", x.told(0), bad.length);
    due("told(6)", x.told(6), 0);
    due("range(3, 0, 40)", x.range(3, 0, 40), 0);
    due("range(0, 40, 40)", x.range(0, 40, 40), 1);
    is(x, 0, 3, 0, 40);
    is(x, 1, 0, 40, 40);
    due("told(6)", x.told(6), 2);
    for (int i = 2; i < 6; i++) due("range(1, 10, 20)", x.range(1, 10, 20), i);
    C.about("promise 3: five cover a section, no more");
    due("range(1, 10, 20)", x.range(1, 10, 20), -4);
    due("range(1, 19, 30)", x.range(1, 19, 30), -4);
    due("range(1, 0, 11)", x.range(1, 0, 11), -4);
    due("range(4, 10, 20)", x.range(4, 10, 20), -2);
    due("told(2)", x.told(2), 3);
    due("told(3)", x.told(3), 6);
    due("range(1, 20, 30)", x.range(1, 20, 30), 6);
    due("range(1, 15, 15)", x.range(1, 15, 15), 7);
    C.about("promise 3: eight ranges, no more");
    due("range(1, 15, 15)", x.range(1, 15, 15), -4);
    due("range(1, 41, 41)", x.range(1, 41, 41), -2);
    due("told(2)", x.told(2), 4);
    due("told(6)", x.told(6), 8);
  }

  private static void drop() {
    C.about("promise 4");
    NestRanges x = with(0, 1, 2, 1, 3, 4, 2, 5, 6);
    due("drop(3)", x.drop(3), -2);
    due("drop(-1)", x.drop(-1), -2);
    due("drop(MAX)", x.drop(MAX), -2);
    due("drop(MIN)", x.drop(MIN), -2);
    due("drop(1)", x.drop(1), 2);
    is(x, 0, 0, 1, 2);
    is(x, 1, 2, 5, 6);
    due("of(2, 0)", x.of(2, 0), -2);
    due("drop(1)", x.drop(1), 1);
    due("drop(0)", x.drop(0), 0);
    due("drop(0)", x.drop(0), -2);
    due("told(6)", x.told(6), 6);
    due("undo()", x.undo(), 5);
    is(x, 0, 0, 1, 2);
  }

  private static void moves() {
    C.about("promise 5");
    NestRanges x = with(0, 10, 20, 1, 10, 20);
    due("moves(0, 5, 30)", x.moves(0, 5, 30), 15);
    is(x, 0, 0, 5, 30);
    due("moves(0, 7, 7)", x.moves(0, 7, 7), -25);
    due("moves(0, 0, 40)", x.moves(0, 0, 40), 40);
    due("moves(0, 1, 39)", x.moves(0, 1, 39), -2);
    due("told(0)", x.told(0), 0);
    due("moves(2, 0, 1)", x.moves(2, 0, 1), -2);
    due("moves(-1, 0, 1)", x.moves(-1, 0, 1), -2);
    due("moves(0, 2, 1)", x.moves(0, 2, 1), -2);
    due("moves(0, -1, 1)", x.moves(0, -1, 1), -2);
    due("moves(0, 0, 41)", x.moves(0, 0, 41), -2);
    due("moves(0, MIN, MAX)", x.moves(0, MIN, MAX), -2);
    due("told(0)", x.told(0), 6);
    due("told(6)", x.told(6), 6);
    is(x, 0, 0, 1, 39);
    is(x, 1, 1, 10, 20);
    C.about("promise 5: five cover a section, no more");
    NestRanges y = with(0, 0, 10, 0, 0, 10, 0, 0, 10, 0, 0, 10, 0, 0, 10, 1, 10, 20);
    due("moves(5, 9, 20)", y.moves(5, 9, 20), -4);
    is(y, 5, 1, 10, 20);
    due("moves(5, 9, 9)", y.moves(5, 9, 9), -10);
    due("moves(4, 1, 9)", y.moves(4, 1, 9), -2);
    due("moves(5, 0, 1)", y.moves(5, 0, 1), 1);
    due("moves(5, 0, 2)", y.moves(5, 0, 2), -4);
    due("told(2)", y.told(2), 2);
    due("told(0)", y.told(0), 0);
  }

  private static void kind() {
    C.about("promise 6");
    NestRanges x = with(2, 1, 5, 1, 3, 9);
    due("kind(0, 3)", x.kind(0, 3), 2);
    due("kind(0, 0)", x.kind(0, 0), 3);
    is(x, 0, 0, 1, 5);
    is(x, 1, 1, 3, 9);
    due("kind(0, 4)", x.kind(0, 4), -2);
    due("kind(0, -1)", x.kind(0, -1), -2);
    due("kind(2, 0)", x.kind(2, 0), -2);
    due("kind(-1, 0)", x.kind(-1, 0), -2);
    due("kind(MAX, MIN)", x.kind(MAX, MIN), -2);
    due("told(0)", x.told(0), 5);
    due("told(6)", x.told(6), 4);
    C.about("promise 6: the nest goes by the new kind");
    due("stack(1, 0)", x.stack(1, 0), 0);
    due("kind(0, 2)", x.kind(0, 2), 0);
    due("stack(1, 0)", x.stack(1, 0), 1);
  }

  private static void rank() {
    C.about("promise 7");
    NestRanges x = with(0, 0, 10, 1, 5, 15);
    due("stack(1, 0)", x.stack(1, 0), 0);
    due("rank(0, 3)", x.rank(0, 3), 0);
    due("stack(1, 0)", x.stack(1, 0), 1);
    due("rank(0, 2)", x.rank(0, 2), 3);
    due("rank(3, 0)", x.rank(3, 0), 3);
    due("told(7)", x.told(7), 2120);
    due("rank(4, 0)", x.rank(4, 0), -2);
    due("rank(-1, 0)", x.rank(-1, 0), -2);
    due("rank(0, 4)", x.rank(0, 4), -2);
    due("rank(0, -1)", x.rank(0, -1), -2);
    due("rank(MIN, MAX)", x.rank(MIN, MAX), -2);
    due("told(0)", x.told(0), 5);
    due("told(7)", x.told(7), 2120);
    due("told(6)", x.told(6), 5);
    due("rank(0, 2)", x.rank(0, 2), 2);
    due("told(6)", x.told(6), 6);
  }

  private static void puts() {
    C.about("promise 8");
    NestRanges x = with(0, 5, 10, 0, 10, 20, 0, 10, 10, 0, 11, 11, 0, 5, 20, 0, 0, 9);
    due("puts(10, 3)", x.puts(10, 3), 43);
    is(x, 0, 0, 5, 10);
    is(x, 1, 0, 13, 23);
    is(x, 2, 0, 10, 10);
    is(x, 3, 0, 14, 14);
    is(x, 4, 0, 5, 23);
    is(x, 5, 0, 0, 9);
    due("puts(43, 1)", x.puts(43, 1), 44);
    due("puts(0, 1)", x.puts(0, 1), 45);
    is(x, 5, 0, 1, 10);
    due("puts(46, 1)", x.puts(46, 1), -2);
    due("puts(-1, 1)", x.puts(-1, 1), -2);
    due("puts(0, 0)", x.puts(0, 0), -2);
    due("puts(0, -1)", x.puts(0, -1), -2);
    due("puts(0, 91)", x.puts(0, 91), -2);
    due("puts(0, MAX)", x.puts(0, MAX), -2);
    due("puts(MIN, MIN)", x.puts(MIN, MIN), -2);
    due("puts(0, 46)", x.puts(0, 46), -4);
    due("puts(46, 90)", x.puts(46, 90), -2);
    due("puts(0, 90)", x.puts(0, 90), -4);
    due("told(0)", x.told(0), 8);
    due("told(2)", x.told(2), 2);
    due("told(4)", x.told(4), 45);
    due("puts(45, 45)", x.puts(45, 45), 90);
    due("puts(0, 1)", x.puts(0, 1), -4);
    x.anew(0);
    due("puts(0, 90)", x.puts(0, 90), 90);
  }

  private static void takes() {
    C.about("promise 9");
    NestRanges x = with(0, 5, 10, 0, 10, 20, 0, 12, 14, 0, 15, 15, 0, 12, 25, 0, 16, 30);
    due("takes(10, 16)", x.takes(10, 16), 34);
    is(x, 0, 0, 5, 10);
    is(x, 1, 0, 10, 14);
    is(x, 2, 0, 10, 10);
    is(x, 3, 0, 10, 10);
    is(x, 4, 0, 10, 19);
    is(x, 5, 0, 10, 24);
    due("takes(3, 3)", x.takes(3, 3), -2);
    due("takes(4, 3)", x.takes(4, 3), -2);
    due("takes(-1, 3)", x.takes(-1, 3), -2);
    due("takes(33, 35)", x.takes(33, 35), -2);
    due("takes(34, 35)", x.takes(34, 35), -2);
    due("takes(MIN, MAX)", x.takes(MIN, MAX), -2);
    due("told(0)", x.told(0), 6);
    due("told(4)", x.told(4), 34);
    due("takes(33, 34)", x.takes(33, 34), 33);
    due("takes(0, 33)", x.takes(0, 33), 0);
    is(x, 5, 0, 0, 0);
    due("takes(0, 1)", x.takes(0, 1), -2);
    due("told(3)", x.told(3), 6);
    due("undo()", x.undo(), 8);
    is(x, 5, 0, 10, 24);
  }

  private static void joins() {
    C.about("promise 10");
    NestRanges x = with(1, 30, 35, 0, 20, 25, 1, 0, 10, 0, 10, 15, 0, 12, 20, 0, 26, 30, 0, 20, 20, 1, 32, 34);
    due("joins(0)", x.joins(0), 2);
    due("told(3)", x.told(3), 6);
    is(x, 0, 1, 30, 35);
    is(x, 1, 0, 10, 25);
    is(x, 2, 1, 0, 10);
    is(x, 3, 0, 26, 30);
    is(x, 4, 0, 20, 20);
    is(x, 5, 1, 32, 34);
    due("joins(1)", x.joins(1), 1);
    is(x, 0, 1, 30, 35);
    due("joins(1)", x.joins(1), 0);
    due("joins(2)", x.joins(2), 0);
    due("told(6)", x.told(6), 12);
    due("joins(4)", x.joins(4), -2);
    due("joins(-1)", x.joins(-1), -2);
    due("joins(MAX)", x.joins(MAX), -2);
    due("told(0)", x.told(0), 3);
    C.about("promise 10: by others in between");
    NestRanges y = with(2, 0, 5, 2, 30, 40, 2, 20, 30, 2, 10, 20, 2, 5, 10, 3, 1, 2);
    due("joins(2)", y.joins(2), 4);
    is(y, 0, 2, 0, 40);
    is(y, 1, 3, 1, 2);
    due("undo()", y.undo(), 6);
    is(y, 3, 2, 10, 20);
  }

  private static void splits() {
    C.about("promise 11");
    NestRanges x = with(2, 0, 20, 0, 10, 30, 2, 20, 35, 2, 7, 7);
    due("splits(0)", x.splits(0), 0);
    due("told(6)", x.told(6), 5);
    due("splits(2)", x.splits(2), 2);
    is(x, 0, 2, 0, 10);
    is(x, 1, 0, 10, 30);
    is(x, 2, 2, 20, 30);
    is(x, 3, 2, 7, 7);
    is(x, 4, 2, 10, 20);
    is(x, 5, 2, 30, 35);
    due("least()", x.least(), 0);
    due("told(6)", x.told(6), 6);
    due("splits(4)", x.splits(4), -2);
    due("splits(-1)", x.splits(-1), -2);
    due("splits(MIN)", x.splits(MIN), -2);
    due("undo()", x.undo(), 5);
    is(x, 0, 2, 0, 20);
    due("told(3)", x.told(3), 4);
    C.about("promise 11: more than eight");
    NestRanges y = with(3, 0, 40, 0, 1, 2, 0, 3, 4, 0, 5, 6, 0, 7, 8);
    due("of(0, 3)", y.of(0, 3), 9);
    due("splits(3)", y.splits(3), -4);
    due("told(2)", y.told(2), 1);
    due("told(6)", y.told(6), 5);
    is(y, 0, 3, 0, 40);
    due("drop(4)", y.drop(4), 4);
    due("drop(3)", y.drop(3), 3);
    due("splits(3)", y.splits(3), 4);
    due("drop(6)", y.drop(6), 6);
    C.about("promise 11: eight are not too many");
    NestRanges z = with(3, 0, 40, 0, 1, 2, 0, 3, 4, 0, 5, 5, 0, 7, 7, 0, 9, 9);
    due("splits(3)", z.splits(3), -4);
    due("drop(5)", z.drop(5), 5);
    due("splits(3)", z.splits(3), -4);
    due("drop(4)", z.drop(4), 4);
    due("splits(3)", z.splits(3), 4);
    due("told(3)", z.told(3), 8);
    is(z, 0, 3, 0, 1);
    is(z, 4, 3, 1, 2);
    is(z, 7, 3, 4, 40);
  }

  private static void undo() {
    C.about("promise 12");
    NestRanges x = new NestRanges();
    due("undo()", x.undo(), -3);
    due("told(1)", x.told(1), 1);
    for (int i = 1; i <= 15; i++) {
      due("puts(0, 1)", x.puts(0, 1), 40 + i);
      due("told(6)", x.told(6), Math.min(12, i));
    }
    due("puts(0, 0)", x.puts(0, 0), -2);
    due("puts(0, 90)", x.puts(0, 90), -4);
    due("told(6)", x.told(6), 12);
    for (int left = 11; left >= 0; left--) {
      due("undo()", x.undo(), left);
      due("told(4)", x.told(4), 43 + left);
    }
    due("undo()", x.undo(), -3);
    due("told(1)", x.told(1), 2);
    due("told(0)", x.told(0), 1);
    due("told(2)", x.told(2), 1);
    C.about("promise 12: an undo is no edit");
    due("range(0, 1, 2)", x.range(0, 1, 2), 0);
    due("range(0, 3, 4)", x.range(0, 3, 4), 1);
    due("undo()", x.undo(), 1);
    due("undo()", x.undo(), 0);
    due("undo()", x.undo(), -3);
  }

  /** Each edit is undone whole: what holds no count of refusals or edits is as before. */
  private static void undoOfEachEdit() {
    C.about("promise 12: each edit");
    back(x -> x.range(1, 2, 3));
    back(x -> x.drop(0));
    back(x -> x.moves(0, 1, 2));
    back(x -> x.kind(0, 3));
    back(x -> x.rank(2, 0));
    back(x -> x.puts(3, 4));
    back(x -> x.takes(3, 14));
    back(x -> x.joins(0));
    back(x -> x.splits(1));
    back(x -> x.draw(5, 8));
  }

  private static void back(Consumer<NestRanges> edit) {
    NestRanges x = with(0, 0, 12, 1, 5, 17, 0, 10, 22, 3, 8, 8);
    long before = state(x);
    edit.accept(x);
    C.holds("changed", state(x) != before);
    due("told(6)", x.told(6), 5);
    due("undo()", x.undo(), 4);
    due("state", state(x), before);
  }

  private static long state(NestRanges x) {
    long h = 7;
    for (int w : new int[] {3, 4, 5, 7}) h = 31 * h + x.told(w);
    for (int r = 0; r < x.told(3); r++) for (int w = 0; w < 5; w++) h = 31 * h + x.of(r, w);
    return 31 * (31 * h + x.least()) + x.nodes();
  }

  private static void of() {
    C.about("promise 13");
    NestRanges x = with(0, 0, 20, 1, 10, 30, 2, 20, 40, 3, 12, 15, 0, 25, 25, 0, 0, 30);
    is(x, 3, 3, 12, 15);
    int[] across = {1, 2, 2, 0, 0, 1};
    for (int r = 0; r < 6; r++) due("of(" + r + ", 4)", x.of(r, 4), across[r]);
    // 5 goes outside 0, which ends sooner; 1 is split where 0 ends, 2 where 5 and 1 end
    int[] pieces = {1, 2, 2, 1, 0, 1};
    for (int r = 0; r < 6; r++) due("of(" + r + ", 3)", x.of(r, 3), pieces[r]);
    due("of(6, 0)", x.of(6, 0), -2);
    due("of(-1, 0)", x.of(-1, 0), -2);
    due("of(0, 5)", x.of(0, 5), -2);
    due("of(0, -1)", x.of(0, -1), -2);
    due("of(MAX, MAX)", x.of(MAX, MAX), -2);
    due("told(0)", x.told(0), 5);
    C.about("promise 13: alike and within are not across");
    NestRanges y = with(0, 5, 10, 0, 5, 10, 0, 5, 8, 0, 8, 10, 0, 4, 9);
    int[] acrossY = {1, 1, 0, 1, 3};
    for (int r = 0; r < 5; r++) due("of(" + r + ", 4)", y.of(r, 4), acrossY[r]);
  }

  private static void over() {
    C.about("promise 14");
    NestRanges x = with(0, 0, 20, 1, 10, 30, 2, 10, 10, 3, 39, 40);
    due("over(0)", x.over(0), 1);
    due("over(9)", x.over(9), 1);
    due("over(10)", x.over(10), 3);
    due("over(19)", x.over(19), 3);
    due("over(20)", x.over(20), 2);
    due("over(30)", x.over(30), 0);
    due("over(39)", x.over(39), 8);
    due("over(40)", x.over(40), -2);
    due("over(-1)", x.over(-1), -2);
    due("over(MAX)", x.over(MAX), -2);
    due("over(MIN)", x.over(MIN), -2);
    due("told(0)", x.told(0), 4);
    x.anew(0);
    due("over(0)", x.over(0), -2);
  }

  private static void section() {
    C.about("promise 15");
    NestRanges x = with(0, 5, 10, 1, 20, 30, 2, 25, 30, 3, 15, 15);
    int[][] want = {{5, 10, 1}, {10, 20, 0}, {20, 25, 1}, {25, 30, 2}};
    for (int s = 0; s < 4; s++) {
      for (int w = 0; w < 3; w++) due("section(" + s + ", " + w + ")", x.section(s, w), want[s][w]);
    }
    due("told(5)", x.told(5), 4);
    due("section(4, 0)", x.section(4, 0), -2);
    due("section(-1, 0)", x.section(-1, 0), -2);
    due("section(0, 3)", x.section(0, 3), -2);
    due("section(0, -1)", x.section(0, -1), -2);
    due("section(MAX, 1)", x.section(MAX, 1), -2);
    due("told(0)", x.told(0), 5);
    C.about("promise 15: fifteen sections");
    NestRanges y = new NestRanges();
    for (int i = 0; i < 8; i++) y.range(0, 5 * i, 5 * i + 2);
    due("told(5)", y.told(5), 15);
    due("section(14, 0)", y.section(14, 0), 35);
    due("section(14, 1)", y.section(14, 1), 37);
    due("section(13, 2)", y.section(13, 2), 0);
    due("section(15, 0)", y.section(15, 0), -2);
  }

  private static void stack() {
    C.about("promise 16");
    NestRanges x = with(3, 0, 30, 0, 10, 40, 1, 0, 40, 2, 10, 20);
    int[][] want = {{2, 0, -1}, {1, 2, 3, 0, -1}, {1, 2, 0, -1}, {1, 2, -1}};
    for (int s = 0; s < 4; s++) {
      for (int k = 0; k < want[s].length; k++) due("stack(" + s + ", " + k + ")", x.stack(s, k), want[s][k]);
    }
    due("stack(0, MAX)", x.stack(0, MAX), -1);
    due("stack(0, -1)", x.stack(0, -1), -2);
    due("stack(4, 0)", x.stack(4, 0), -2);
    due("stack(-1, 0)", x.stack(-1, 0), -2);
    due("stack(MIN, MIN)", x.stack(MIN, MIN), -2);
    due("told(0)", x.told(0), 4);
    C.about("promise 16: no range over a section");
    NestRanges y = with(0, 0, 5, 0, 10, 15);
    due("stack(1, 0)", y.stack(1, 0), -1);
    due("stack(2, 0)", y.stack(2, 0), 1);
  }

  /** Of nests with as few splits the first section's stack decides, then the next one's. */
  private static void stackOfLikeNests() {
    C.about("promise 16: the least of like nests");
    NestRanges x = with(0, 0, 20, 0, 0, 20);
    due("stack(0, 0)", x.stack(0, 0), 0);
    due("ways()", x.ways(), 2);
    C.about("promise 16: fewer splits ahead of the lesser stack");
    NestRanges y = with(0, 0, 10, 0, 0, 30);
    due("stack(0, 0)", y.stack(0, 0), 1);
    due("stack(0, 1)", y.stack(0, 1), 0);
    due("ways()", y.ways(), 1);
    C.about("promise 16: like splits, the first section decides");
    NestRanges z = with(0, 10, 30, 0, 0, 20);
    due("least()", z.least(), 1);
    due("ways()", z.ways(), 2);
    due("stack(1, 0)", z.stack(1, 0), 0);
    due("stack(1, 1)", z.stack(1, 1), 1);
    due("of(1, 3)", z.of(1, 3), 2);
  }

  private static void least() {
    C.about("promise 17");
    due("least()", new NestRanges().least(), 0);
    due("least()", with(0, 0, 10, 0, 10, 20).least(), 0);
    due("least()", with(0, 0, 10, 0, 5, 20).least(), 1);
    due("least()", with(0, 0, 40, 3, 5, 20).least(), 0);
    due("least() against ranks", with(3, 0, 40, 0, 5, 20).least(), 2);
    due("least() of one that ends alike", with(3, 0, 40, 0, 5, 40).least(), 1);
    due("least() of a staircase", with(0, 0, 30, 0, 10, 35, 0, 20, 40).least(), 2);
    due("least() with a gap", with(0, 0, 10, 0, 5, 15, 0, 20, 30, 0, 25, 35).least(), 2);
  }

  private static void ways() {
    C.about("promise 18");
    due("ways()", new NestRanges().ways(), 1);
    due("ways()", with(0, 3, 3).ways(), 1);
    due("ways()", with(0, 0, 9, 0, 0, 9, 0, 0, 9, 0, 0, 9, 0, 0, 9).ways(), 120);
    due("ways()", with(0, 0, 9, 0, 0, 9, 1, 0, 9, 1, 0, 9, 1, 0, 9).ways(), 12);
    due("ways()", with(0, 0, 9, 0, 0, 9, 0, 9, 20, 0, 9, 20, 0, 9, 20).ways(), 12);
    due("ways()", with(0, 0, 9, 0, 0, 9, 0, 0, 9, 0, 0, 9, 0, 0, 9, 0, 9, 20, 0, 9, 20, 0, 9, 20).ways(), 720);
    NestRanges x = with(0, 0, 20, 0, 10, 30);
    due("ways()", x.ways(), 2);
    x.kind(0, 1);
    due("ways()", x.ways(), 1);
    x.rank(1, 0);
    due("ways()", x.ways(), 2);
    C.about("promise 18: 1000000000 at most");
    // each short one goes outside and splits all long ones, so their order is free in each section
    NestRanges y = with(3, 0, 40, 3, 0, 40, 3, 0, 40, 3, 0, 40);
    int[] four = {24, 24 * 24 * 24, 24 * 24 * 24 * 24 * 24, 1000000000, 1000000000};
    for (int i = 0; i < 5; i++) {
      due("least()", y.least(), 8 * i);
      due("ways()", y.ways(), four[i]);
      y.range(0, 5 * i + 1, 5 * i + 2);
    }
    NestRanges z = with(3, 0, 40, 3, 0, 40, 3, 0, 40);
    for (int i = 0; i < 5; i++) z.range(0, 5 * i + 1, 5 * i + 2);
    due("ways()", z.ways(), 362797056);
  }

  private static void plain() {
    C.about("promise 19");
    due("plain()", new NestRanges().plain(), 0);
    NestRanges x = with(0, 0, 10, 0, 0, 30);
    due("plain()", x.plain(), 1);
    due("least()", x.least(), 0);
    NestRanges y = with(2, 0, 40, 1, 5, 20);
    due("plain()", y.plain(), 2);
    y.rank(1, 2);
    due("plain()", y.plain(), 0);
    due("plain()", with(0, 10, 20, 0, 0, 40).plain(), 2);
  }

  private static void free() {
    C.about("promise 20");
    due("free()", new NestRanges().free(), 0);
    NestRanges x = with(3, 0, 40, 0, 5, 20, 0, 15, 25);
    due("least()", x.least(), 5);
    due("free()", x.free(), 1);
    due("least()", x.least(), 5);
    due("told(7)", x.told(7), 123);
    due("told(6)", x.told(6), 3);
    due("stack(2, 2)", x.stack(2, 2), 0);
  }

  private static void without() {
    C.about("promise 21");
    NestRanges none = new NestRanges();
    due("without(0)", none.without(0), -1);
    due("without(1)", none.without(1), -1);
    due("without(2)", none.without(2), -2);
    due("without(-1)", none.without(-1), -2);
    due("without(MAX)", none.without(MAX), -2);
    due("told(0)", none.told(0), 3);
    NestRanges x = with(0, 0, 10, 0, 5, 25, 0, 20, 30);
    due("without(0)", x.without(0), 1);
    due("without(1)", x.without(1), 0);
    due("least()", x.least(), 2);
    due("told(3)", x.told(3), 3);
    NestRanges y = with(1, 3, 3, 0, 0, 20, 0, 10, 30);
    due("without(0)", y.without(0), 1);
    due("without(1)", y.without(1), 0);
    NestRanges z = with(1, 3, 3, 0, 0, 20);
    due("without(0)", z.without(0), 0);
    due("without(1)", z.without(1), 0);
    NestRanges one = with(1, 3, 9);
    due("without(0)", one.without(0), 0);
    due("without(1)", one.without(1), 0);
    C.about("promise 21: ranks are kept to");
    NestRanges v = with(3, 0, 40, 0, 5, 20, 0, 15, 25);
    due("without(0)", v.without(0), 0);
    due("without(1)", v.without(1), 1);
    C.about("promise 21: some splits are left");
    NestRanges w = with(0, 0, 10, 0, 5, 15, 0, 20, 30, 0, 25, 35);
    due("without(0)", w.without(0), 0);
    due("without(1)", w.without(1), 1);
  }

  private static void nodes() {
    C.about("promise 22");
    due("nodes()", new NestRanges().nodes(), 0);
    due("nodes()", with(0, 1, 1, 0, 1, 1).nodes(), 2);
    due("nodes()", with(0, 0, 20, 0, 10, 30, 0, 15, 15).nodes(), 4);
    due("nodes()", with(3, 0, 40, 0, 1, 2, 0, 3, 4, 0, 5, 6, 0, 7, 8, 0, 9, 10, 0, 11, 12, 0, 13, 14).nodes(), 22);
  }

  private static void node() {
    C.about("promise 23");
    NestRanges x = with(1, 0, 20, 0, 10, 30, 2, 5, 15);
    due("nodes()", x.nodes(), 5);
    node(x, 0, 0, 0, 10, 0, -1);
    node(x, 1, 2, 5, 10, 1, 0);
    node(x, 2, 1, 10, 30, 0, -1);
    node(x, 3, 0, 10, 20, 1, 2);
    node(x, 4, 2, 10, 15, 2, 3);
    for (int w = 0; w < 5; w++) due("node(5, " + w + ")", x.node(5, w), -1);
    due("node(MAX, 0)", x.node(MAX, 0), -1);
    due("told(0)", x.told(0), 0);
    due("node(-1, 0)", x.node(-1, 0), -2);
    due("node(0, 5)", x.node(0, 5), -2);
    due("node(0, -1)", x.node(0, -1), -2);
    due("node(99, 5)", x.node(99, 5), -2);
    due("node(MIN, MAX)", x.node(MIN, MAX), -2);
    due("told(0)", x.told(0), 5);
  }

  private static void nodeEmptyOnes() {
    C.about("promise 23: empty ones at cuts");
    NestRanges x = with(0, 0, 0, 0, 0, 40, 1, 10, 20, 2, 15, 30, 3, 20, 20, 3, 10, 10, 3, 17, 17, 0, 40, 40);
    due("nodes()", x.nodes(), 9);
    node(x, 0, 0, 0, 0, 0, -1);
    node(x, 1, 1, 0, 40, 0, -1);
    node(x, 2, 5, 10, 10, 1, 1);
    node(x, 3, 2, 10, 20, 1, 1);
    node(x, 4, 3, 15, 20, 2, 3);
    node(x, 5, 6, 17, 17, 3, 4);
    node(x, 6, 4, 20, 20, 1, 1);
    node(x, 7, 3, 20, 30, 1, 1);
    node(x, 8, 7, 40, 40, 0, -1);
    C.about("promise 23: an empty one within five");
    NestRanges five = with(0, 0, 40, 0, 1, 39, 0, 2, 38, 0, 3, 37, 0, 4, 36, 0, 20, 20);
    node(five, 4, 4, 4, 36, 4, 3);
    node(five, 5, 5, 20, 20, 5, 4);
    due("all(0)", five.all(0), 5);
    C.about("promise 23: empty ones at one place, and outside");
    NestRanges y = with(3, 5, 5, 0, 10, 20, 2, 5, 5, 1, 15, 15, 1, 30, 30);
    node(y, 0, 0, 5, 5, 0, -1);
    node(y, 1, 2, 5, 5, 0, -1);
    node(y, 2, 1, 10, 20, 0, -1);
    node(y, 3, 3, 15, 15, 1, 2);
    node(y, 4, 4, 30, 30, 0, -1);
  }

  private static void all() {
    C.about("promise 24");
    for (int w = 0; w < 5; w++) due("all(" + w + ")", new NestRanges().all(w), 0);
    NestRanges x = with(1, 0, 20, 0, 10, 30, 2, 5, 15, 3, 12, 12, 3, 35, 35);
    int[] want = {3, 7, 2, 20, 3};
    for (int w = 0; w < 5; w++) due("all(" + w + ")", x.all(w), want[w]);
    due("all(5)", x.all(5), -2);
    due("all(-1)", x.all(-1), -2);
    due("all(MIN)", x.all(MIN), -2);
    due("told(0)", x.told(0), 3);
  }

  private static void draw() {
    C.about("promise 25");
    NestRanges x = with(3, 0, 0);
    x.rank(0, 2);
    due("draw(1000000, 1)", x.draw(1000000, 1), -2);
    due("draw(-1, 1)", x.draw(-1, 1), -2);
    due("draw(0, 9)", x.draw(0, 9), -2);
    due("draw(0, -1)", x.draw(0, -1), -2);
    due("draw(MAX, MIN)", x.draw(MAX, MIN), -2);
    due("told(0)", x.told(0), 5);
    due("told(3)", x.told(3), 1);
    due("draw(0, 2)", x.draw(0, 2), 2);
    // X: 12345, then (12345 * 1103515245 + 12345) mod 2147483648 = 1406932606
    is(x, 0, 0, 0, 12);
    is(x, 1, 0, 6, 9);
    due("told(7)", x.told(7), 2123);
    due("told(4)", x.told(4), 40);
    due("told(6)", x.told(6), 3);
    due("draw(999999, 0)", x.draw(999999, 0), 0);
    due("told(3)", x.told(3), 0);
    due("told(6)", x.told(6), 4);
    due("undo()", x.undo(), 3);
    due("undo()", x.undo(), 2);
    is(x, 0, 3, 0, 0);
    C.about("promise 25: one too many is left out");
    NestRanges y = new NestRanges();
    y.anew(60);
    due("draw(110866, 7)", y.draw(110866, 7), 6);
    due("told(2)", y.told(2), 0);
    C.about("promise 25: no places");
    y.anew(0);
    due("draw(7, 8)", y.draw(7, 8), 8);
    for (int r = 0; r < 8; r++) due("of(" + r + ", 2)", y.of(r, 2), 0);
  }

  private static void told() {
    C.about("promise 26");
    NestRanges x = with(0, 0, 10, 1, 5, 15);
    x.rank(0, 1);
    x.rank(1, 0);
    x.rank(2, 3);
    x.rank(3, 2);
    x.undo();
    x.undo();
    x.drop(9);
    x.puts(0, 90);
    int[] want = {1, 0, 1, 2, 40, 3, 4, 1023};
    for (int w = 0; w < 8; w++) due("told(" + w + ")", x.told(w), want[w]);
    due("told(8)", x.told(8), -2);
    due("told(-1)", x.told(-1), -2);
    due("told(MAX)", x.told(MAX), -2);
    due("told(0)", x.told(0), 4);
    for (int left = 3; left >= 0; left--) due("undo()", x.undo(), left);
    due("undo()", x.undo(), -3);
    due("told(1)", x.told(1), 1);
    due("told(0)", x.told(0), 4);
  }

  private static void digest() {
    C.about("promise 27");
    NestRanges x = new NestRanges();
    due("digest()", x.digest(), digestOf(0, 0, 0, 0, 40, 0, 0, 123, 0, 0));
    x.range(2, 0, 20);
    x.range(1, 10, 30);
    x.undo();
    x.range(0, 10, 30);
    x.range(9, 10, 30);
    due("digest()", x.digest(), digestOf(1, 0, 0, 2, 40, 3, 2, 123, 2, 0, 20, 0, 10, 30, 1, 3));
    due("digest() again", x.digest(), digestOf(1, 0, 0, 2, 40, 3, 2, 123, 2, 0, 20, 0, 10, 30, 1, 3));
  }

  private static long digestOf(int... values) {
    long h = 1951;
    for (int v : values) h = 31 * h + v;
    return h;
  }
}
