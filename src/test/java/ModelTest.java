import java.util.Random;

/** Drawn runs of calls, each answer held against the one of the model. */
public final class ModelTest {
  private static final int RUNS = 1500;
  private static final int CALLS = 120;
  /** What an object answers behind its 512th call is free. */
  private static final int PROMISED = 512;
  private static final int[] ODD = {Integer.MIN_VALUE, Integer.MAX_VALUE, -1, -2, 4, 5, 8, 9, 90, 91, 1000000};

  private final Check check = new Check();
  private final Random random;
  private final NestRanges x = new NestRanges();
  private final Model m = new Model();
  private final StringBuilder calls = new StringBuilder();
  private int asked = 0;

  private ModelTest(int run) {
    random = new Random(run);
    check.about("run " + run);
  }

  private int in(int most) {
    if (random.nextInt(60) == 0) return ODD[random.nextInt(ODD.length)];
    return random.nextInt(most + 1);
  }

  private int place() {
    return in(Math.max(0, m.told(4)));
  }

  private int number() {
    int count = m.told(3);
    return random.nextInt(25) == 0 ? in(8) : in(Math.max(0, count - 1));
  }

  private void due(String call, long got, long want) {
    asked++;
    if (asked > PROMISED) return;
    calls.append(call).append(" ");
    check.due(call, got, want);
  }

  private void edit() {
    int kind = in(3), r = number(), one = place(), other = place();
    int a = random.nextInt(20) == 0 ? one : Math.min(one, other), b = Math.max(one, other);
    if (random.nextInt(8) == 0) b = a;
    switch (random.nextInt(20)) {
      case 0 -> { if (random.nextInt(12) == 0) { int l = in(90); due("anew(" + l + ")", x.anew(l), m.anew(l)); } }
      case 1 -> due("drop(" + r + ")", x.drop(r), m.drop(r));
      case 2, 3 -> due("moves(" + r + ", " + a + ", " + b + ")", x.moves(r, a, b), m.moves(r, a, b));
      case 4 -> due("kind(" + r + ", " + kind + ")", x.kind(r, kind), m.kind(r, kind));
      case 5, 6 -> { int rank = in(3); due("rank(" + kind + ", " + rank + ")", x.rank(kind, rank), m.rank(kind, rank)); }
      case 7 -> { int n = in(random.nextInt(3) == 0 ? 90 : 12); due("puts(" + one + ", " + n + ")", x.puts(one, n), m.puts(one, n)); }
      case 8 -> { int q = Math.min(b, a + in(12)); due("takes(" + a + ", " + q + ")", x.takes(a, q), m.takes(a, q)); }
      case 9 -> due("joins(" + kind + ")", x.joins(kind), m.joins(kind));
      case 10 -> due("splits(" + kind + ")", x.splits(kind), m.splits(kind));
      case 11, 12, 13 -> due("undo()", x.undo(), m.undo());
      case 14 -> { int seed = in(999999), n = in(8); due("draw(" + seed + ", " + n + ")", x.draw(seed, n), m.draw(seed, n)); }
      default -> due("range(" + kind + ", " + a + ", " + b + ")", x.range(kind, a, b), m.range(kind, a, b));
    }
  }

  private void ask() {
    int r = number(), s = in(15), k = in(5), p = place(), w = in(5), n = in(30);
    switch (random.nextInt(14)) {
      case 0 -> due("of(" + r + ", " + w + ")", x.of(r, w), m.of(r, w));
      case 1 -> due("over(" + p + ")", x.over(p), m.over(p));
      case 2 -> due("section(" + s + ", " + w + ")", x.section(s, w), m.section(s, w));
      case 3 -> due("stack(" + s + ", " + k + ")", x.stack(s, k), m.stack(s, k));
      case 4 -> due("least()", x.least(), m.least());
      case 5 -> due("ways()", x.ways(), m.ways());
      case 6 -> due("plain()", x.plain(), m.plain());
      case 7 -> due("free()", x.free(), m.free());
      case 8 -> due("without(" + (w - 1) + ")", x.without(w - 1), m.without(w - 1));
      case 9 -> due("nodes()", x.nodes(), m.nodes());
      case 10 -> due("node(" + n + ", " + w + ")", x.node(n, w), m.node(n, w));
      case 11 -> due("all(" + w + ")", x.all(w), m.all(w));
      case 12 -> { int t = in(8); due("told(" + t + ")", x.told(t), m.told(t)); }
      default -> due("digest()", x.digest(), m.digest());
    }
  }

  private void askAll() {
    for (int r = 0; r < 8; r++) for (int w = 0; w < 5; w++) due("of(" + r + ", " + w + ")", x.of(r, w), m.of(r, w));
    for (int s = 0; s < 16; s++) {
      for (int w = 0; w < 3; w++) due("section(" + s + ", " + w + ")", x.section(s, w), m.section(s, w));
      for (int k = 0; k < 6; k++) due("stack(" + s + ", " + k + ")", x.stack(s, k), m.stack(s, k));
    }
    int nodes = m.nodes();
    for (int k = 0; k <= nodes; k++) for (int w = 0; w < 5; w++) due("node(" + k + ", " + w + ")", x.node(k, w), m.node(k, w));
    for (int w = 0; w < 5; w++) due("all(" + w + ")", x.all(w), m.all(w));
    due("ways()", x.ways(), m.ways());
    due("plain()", x.plain(), m.plain());
    due("free()", x.free(), m.free());
    due("without(0)", x.without(0), m.without(0));
    due("without(1)", x.without(1), m.without(1));
    due("digest()", x.digest(), m.digest());
  }

  /** Many stacks a section: ranks alike, and as many ranges one over another as there may be. */
  private void thicken() {
    int places = 90 - random.nextInt(60), ranks = 1 + random.nextInt(2);
    due("anew(" + places + ")", x.anew(places), m.anew(places));
    for (int kind = 0; kind < 4; kind++) {
      int rank = random.nextInt(ranks);
      due("rank(" + kind + ", " + rank + ")", x.rank(kind, rank), m.rank(kind, rank));
    }
    int step = 1 + random.nextInt(5);
    for (int i = 0; i < 30; i++) {
      int kind = random.nextInt(4), one = random.nextInt(places / step + 1) * step, other = random.nextInt(places / step + 1) * step;
      int a = Math.min(one, other), b = Math.max(one, other);
      due("range(" + kind + ", " + a + ", " + b + ")", x.range(kind, a, b), m.range(kind, a, b));
    }
    askAll();
  }

  private boolean run() {
    if (random.nextInt(3) == 0) thicken();
    for (int i = 0; i < CALLS && !check.failed(); i++) {
      if (random.nextInt(3) == 0) ask();
      else edit();
    }
    if (!check.failed()) askAll();
    if (check.failed()) System.out.println("calls: " + calls);
    return !check.failed();
  }

  public static void main(String[] args) {
    int runs = args.length > 0 ? Integer.parseInt(args[0]) : RUNS;
    int failed = 0;
    for (int run = 0; run < runs && failed < 3; run++) if (!new ModelTest(run).run()) failed++;
    System.out.println(runs + " runs, " + failed + " failed");
    if (failed != 0) System.exit(1);
  }
}
