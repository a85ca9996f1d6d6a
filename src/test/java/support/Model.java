import java.math.BigInteger;
import java.util.ArrayList;
import java.util.Arrays;
import java.util.Collections;
import java.util.Comparator;
import java.util.List;
import java.util.TreeSet;

/**
 * The document over again, word by word and without regard to speed: nests are told by trying all
 * of them where there are few enough, nodes by the definition of what lies in what.
 */
final class Model {
  static final int NONE = -1, BAD = -2, NO = -3, FULL = -4;

  /** How many nests are few enough to try all of them. */
  private static final long FEW = 3000;

  record Range(int kind, int a, int b) {
    boolean empty() {
      return a == b;
    }

    boolean covers(int from, int to) {
      return !empty() && a <= from && to <= b;
    }
  }

  record State(int length, List<Range> ranges, List<Integer> ranks) { }

  record Solved(int splits, BigInteger ways, List<List<Integer>> stacks) { }

  static final class Node {
    int range, from, to, depth, next = NONE, first = -1, last = -1, place;
  }

  private State now = new State(40, List.of(), List.of(0, 1, 2, 3));
  private final List<State> past = new ArrayList<>();
  private final int[] refused = new int[3];
  private State solvedFor = null, listedFor = null;
  private Solved solved = null;
  private List<Node> listed = null;

  private int bad() {
    refused[0]++;
    return BAD;
  }

  private int full() {
    refused[2]++;
    return FULL;
  }

  private void edit(State next) {
    past.add(now);
    if (past.size() > 12) past.remove(0);
    now = next;
  }

  private State with(List<Range> ranges) {
    return new State(now.length, List.copyOf(ranges), now.ranks);
  }

  private List<Range> ranges() {
    return new ArrayList<>(now.ranges);
  }

  private boolean noRange(int r) {
    return r < 0 || r >= now.ranges.size();
  }

  private boolean noSpan(int a, int b) {
    return a < 0 || a > b || b > now.length;
  }

  private static boolean out(int x, int most) {
    return x < 0 || x > most;
  }

  private static boolean tooMany(List<Range> ranges) {
    if (ranges.size() > 8) return true;
    for (int p = 0; p < 90; p++) {
      int over = 0;
      for (Range r : ranges) if (r.a <= p && p < r.b) over++;
      if (over > 5) return true;
    }
    return false;
  }

  int anew(int l) {
    if (out(l, 90)) return bad();
    int were = now.ranges.size();
    now = new State(l, List.of(), List.of(0, 1, 2, 3));
    past.clear();
    return were;
  }

  int range(int kind, int a, int b) {
    if (out(kind, 3) || noSpan(a, b)) return bad();
    List<Range> next = ranges();
    next.add(new Range(kind, a, b));
    if (tooMany(next)) return full();
    edit(with(next));
    return next.size() - 1;
  }

  int drop(int r) {
    if (noRange(r)) return bad();
    List<Range> next = ranges();
    next.remove(r);
    edit(with(next));
    return next.size();
  }

  int moves(int r, int a, int b) {
    if (noRange(r) || noSpan(a, b)) return bad();
    List<Range> next = ranges();
    Range old = next.set(r, new Range(next.get(r).kind, a, b));
    if (tooMany(next)) return full();
    edit(with(next));
    return (b - a) - (old.b - old.a);
  }

  int kind(int r, int kind) {
    if (noRange(r) || out(kind, 3)) return bad();
    List<Range> next = ranges();
    Range old = next.get(r);
    next.set(r, new Range(kind, old.a, old.b));
    edit(with(next));
    return old.kind;
  }

  int rank(int kind, int rank) {
    if (out(kind, 3) || out(rank, 3)) return bad();
    List<Integer> ranks = new ArrayList<>(now.ranks);
    int old = ranks.set(kind, rank);
    edit(new State(now.length, now.ranges, List.copyOf(ranks)));
    return old;
  }

  int puts(int p, int n) {
    if (out(p, now.length) || n < 1 || n > 90) return bad();
    if (now.length + n > 90) return full();
    List<Range> next = new ArrayList<>();
    for (Range r : now.ranges) {
      int a = r.a, b = r.b;
      if (r.empty()) {
        if (a > p) { a += n; b += n; }
      } else {
        if (a >= p) a += n;
        if (b > p) b += n;
      }
      next.add(new Range(r.kind, a, b));
    }
    edit(new State(now.length + n, next, now.ranks));
    return now.length;
  }

  int takes(int p, int q) {
    if (out(p, now.length) || q <= p || q > now.length) return bad();
    List<Range> next = new ArrayList<>();
    for (Range r : now.ranges) next.add(new Range(r.kind, taken(r.a, p, q), taken(r.b, p, q)));
    edit(new State(now.length - (q - p), next, now.ranks));
    return now.length;
  }

  private static int taken(int x, int p, int q) {
    if (x >= q) return x - (q - p);
    if (x > p) return p;
    return x;
  }

  /** Which hang together is told place by place: a group's number spreads until nothing changes. */
  int joins(int kind) {
    if (out(kind, 3)) return bad();
    List<Range> all = now.ranges;
    int[] group = new int[all.size()];
    for (int i = 0; i < group.length; i++) group[i] = i;
    boolean spread = true;
    while (spread) {
      spread = false;
      for (int i = 0; i < group.length; i++) {
        for (int j = 0; j < group.length; j++) {
          Range x = all.get(i), y = all.get(j);
          if (x.kind != kind || y.kind != kind || x.empty() || y.empty()) continue;
          if (x.b < y.a || y.b < x.a || group[i] >= group[j]) continue;
          group[j] = group[i];
          spread = true;
        }
      }
    }
    List<Range> next = new ArrayList<>();
    for (int i = 0; i < group.length; i++) {
      if (group[i] != i) continue;
      int a = 90, b = 0;
      for (int j = 0; j < group.length; j++) {
        if (group[j] == i) { a = Math.min(a, all.get(j).a); b = Math.max(b, all.get(j).b); }
      }
      next.add(new Range(all.get(i).kind, a, b));
    }
    edit(with(next));
    return all.size() - next.size();
  }

  int splits(int kind) {
    if (out(kind, 3)) return bad();
    List<Range> next = ranges();
    List<Node> nodes = nodeList();
    for (int r = 0; r < now.ranges.size(); r++) {
      if (now.ranges.get(r).kind != kind || now.ranges.get(r).empty()) continue;
      boolean first = true;
      for (Node n : nodes) {
        if (n.range != r) continue;
        Range piece = new Range(kind, n.from, n.to);
        if (first) next.set(r, piece);
        else next.add(piece);
        first = false;
      }
    }
    if (next.size() > 8) return full();
    int come = next.size() - now.ranges.size();
    edit(with(next));
    return come;
  }

  int undo() {
    if (past.isEmpty()) {
      refused[1]++;
      return NO;
    }
    now = past.remove(past.size() - 1);
    return past.size();
  }

  int of(int r, int what) {
    if (noRange(r) || out(what, 4)) return bad();
    Range x = now.ranges.get(r);
    if (what == 0) return x.kind;
    if (what == 1) return x.a;
    if (what == 2) return x.b;
    int many = 0;
    if (what == 3) {
      for (Node n : nodeList()) if (n.range == r && n.from < n.to) many++;
      return many;
    }
    for (Range y : now.ranges) if (across(x, y)) many++;
    return many;
  }

  private static boolean across(Range x, Range y) {
    boolean common = false, onlyX = false, onlyY = false;
    for (int p = 0; p < 90; p++) {
      boolean inX = x.a <= p && p < x.b, inY = y.a <= p && p < y.b;
      if (inX && inY) common = true;
      if (inX && !inY) onlyX = true;
      if (inY && !inX) onlyY = true;
    }
    return common && onlyX && onlyY;
  }

  int over(int p) {
    if (p < 0 || p >= now.length) return bad();
    int bits = 0;
    for (int r = 0; r < now.ranges.size(); r++) {
      if (now.ranges.get(r).a <= p && now.ranges.get(r).b > p) bits += 1 << r;
    }
    return bits;
  }

  static List<Integer> cuts(List<Range> ranges) {
    TreeSet<Integer> cuts = new TreeSet<>();
    for (Range r : ranges) if (!r.empty()) { cuts.add(r.a); cuts.add(r.b); }
    return new ArrayList<>(cuts);
  }

  static List<List<Integer>> covers(List<Range> ranges) {
    List<Integer> cuts = cuts(ranges);
    List<List<Integer>> covers = new ArrayList<>();
    for (int s = 0; s + 1 < cuts.size(); s++) {
      List<Integer> cover = new ArrayList<>();
      for (int r = 0; r < ranges.size(); r++) {
        if (ranges.get(r).covers(cuts.get(s), cuts.get(s + 1))) cover.add(r);
      }
      covers.add(cover);
    }
    return covers;
  }

  int section(int s, int what) {
    List<Integer> cuts = cuts(now.ranges);
    if (out(s, cuts.size() - 2) || out(what, 2)) return bad();
    if (what < 2) return cuts.get(s + what);
    return covers(now.ranges).get(s).size();
  }

  int stack(int s, int k) {
    if (out(s, cuts(now.ranges).size() - 2) || k < 0) return bad();
    List<Integer> stack = nest().stacks.get(s);
    return k < stack.size() ? stack.get(k) : NONE;
  }

  private Solved nest() {
    if (solvedFor != now) solved = solve(now.ranges, now.ranks);
    solvedFor = now;
    return solved;
  }

  int least() {
    return nest().splits;
  }

  int ways() {
    return nest().ways.min(BigInteger.valueOf(1000000000)).intValue();
  }

  int plain() {
    List<List<Integer>> stacks = new ArrayList<>();
    for (List<Integer> cover : covers(now.ranges)) stacks.add(stacksOf(cover, now.ranges, now.ranks).get(0));
    return splitsOf(stacks);
  }

  int free() {
    return solve(now.ranges, List.of(0, 0, 0, 0)).splits;
  }

  int without(int what) {
    if (out(what, 1)) return bad();
    int which = NONE, fewest = NONE;
    for (int r = 0; r < now.ranges.size(); r++) {
      List<Range> others = ranges();
      others.remove(r);
      int splits = solve(others, now.ranks).splits;
      if (which == NONE || splits < fewest) { which = r; fewest = splits; }
    }
    return what == 0 ? which : fewest;
  }

  int nodes() {
    return nodeList().size();
  }

  int node(int k, int what) {
    if (k < 0 || out(what, 4)) return bad();
    List<Node> nodes = nodeList();
    if (k >= nodes.size()) return NONE;
    Node n = nodes.get(k);
    return new int[] {n.range, n.from, n.to, n.depth, n.next}[what];
  }

  int all(int what) {
    if (out(what, 4)) return bad();
    int[] all = new int[5];
    for (Node n : nodeList()) {
      all[0] = Math.max(all[0], n.depth);
      all[1] += n.depth;
      if (n.from == n.to) all[2]++;
      all[3] = Math.max(all[3], n.to - n.from);
      if (n.depth == 0) all[4]++;
    }
    return all[what];
  }

  int draw(int seed, int n) {
    if (out(seed, 999999) || out(n, 8)) return bad();
    BigInteger x = BigInteger.valueOf(seed);
    List<Range> next = new ArrayList<>();
    for (int i = 0; i < n; i++) {
      x = x.multiply(BigInteger.valueOf(1103515245)).add(BigInteger.valueOf(12345)).mod(BigInteger.valueOf(2147483648L));
      int kind = part(x, 65536, 4), one = part(x, 1024, now.length + 1), other = part(x, 32768, now.length + 1);
      next.add(new Range(kind, Math.min(one, other), Math.max(one, other)));
      if (tooMany(next)) next.remove(next.size() - 1);
    }
    edit(with(next));
    return next.size();
  }

  private static int part(BigInteger x, int by, int left) {
    return x.divide(BigInteger.valueOf(by)).mod(BigInteger.valueOf(left)).intValue();
  }

  int told(int what) {
    if (out(what, 7)) return bad();
    if (what < 3) return refused[what];
    if (what == 3) return now.ranges.size();
    if (what == 4) return now.length;
    if (what == 5) return covers(now.ranges).size();
    if (what == 6) return past.size();
    List<Integer> k = now.ranks;
    return 1000 * k.get(0) + 100 * k.get(1) + 10 * k.get(2) + k.get(3);
  }

  long digest() {
    List<Integer> values = new ArrayList<>();
    for (int w = 0; w < 8; w++) values.add(told(w));
    for (Range r : now.ranges) values.addAll(List.of(r.kind, r.a, r.b));
    values.add(least());
    values.add(nodes());
    long h = 1951;
    for (int v : values) h = 31 * h + v;
    return h;
  }

  // ---- nests

  /** All stacks of a section, from the least on. */
  private static List<List<Integer>> stacksOf(List<Integer> cover, List<Range> ranges, List<Integer> ranks) {
    List<List<Integer>> all = new ArrayList<>();
    for (List<Integer> row : orders(cover)) {
      boolean may = true;
      for (int i = 0; i + 1 < row.size(); i++) {
        int outer = ranks.get(ranges.get(row.get(i)).kind), inner = ranks.get(ranges.get(row.get(i + 1)).kind);
        if (outer > inner) may = false;
      }
      if (may) all.add(row);
    }
    all.sort(Model::compare);
    return all;
  }

  private static List<List<Integer>> orders(List<Integer> of) {
    if (of.isEmpty()) return List.of(List.of());
    List<List<Integer>> all = new ArrayList<>();
    for (Integer first : of) {
      List<Integer> rest = new ArrayList<>(of);
      rest.remove(first);
      for (List<Integer> order : orders(rest)) {
        List<Integer> row = new ArrayList<>(List.of(first));
        row.addAll(order);
        all.add(row);
      }
    }
    return all;
  }

  private static int compare(List<Integer> x, List<Integer> y) {
    for (int i = 0; i < Math.min(x.size(), y.size()); i++) {
      if (!x.get(i).equals(y.get(i))) return x.get(i) - y.get(i);
    }
    return x.size() - y.size();
  }

  /** Which ranges are split from one stack to the next one. */
  private static List<Integer> split(List<Integer> stack, List<Integer> next) {
    List<Integer> alike = new ArrayList<>();
    for (int i = 0; i < Math.min(stack.size(), next.size()); i++) {
      if (!stack.get(i).equals(next.get(i))) break;
      alike.add(stack.get(i));
    }
    List<Integer> split = new ArrayList<>();
    for (Integer r : stack) if (next.contains(r) && !alike.contains(r)) split.add(r);
    return split;
  }

  private static int splitsOf(List<List<Integer>> stacks) {
    int all = 0;
    for (int s = 0; s + 1 < stacks.size(); s++) all += split(stacks.get(s), stacks.get(s + 1)).size();
    return all;
  }

  private static Solved solve(List<Range> ranges, List<Integer> ranks) {
    List<List<List<Integer>>> stacks = new ArrayList<>();
    long nests = 1;
    for (List<Integer> cover : covers(ranges)) {
      stacks.add(stacksOf(cover, ranges, ranks));
      nests = Math.min(FEW + 1, nests * stacks.get(stacks.size() - 1).size());
    }
    return nests <= FEW ? tryAll(stacks) : byCosts(stacks);
  }

  /** Nests come rising, so the first one of the fewest splits is the one. */
  private static Solved tryAll(List<List<List<Integer>>> stacks) {
    int size = stacks.size();
    int[] at = new int[size];
    int fewest = Integer.MAX_VALUE;
    long ways = 0;
    List<List<Integer>> best = List.of();
    while (true) {
      List<List<Integer>> nest = new ArrayList<>();
      for (int s = 0; s < size; s++) nest.add(stacks.get(s).get(at[s]));
      int splits = splitsOf(nest);
      if (splits < fewest) { fewest = splits; ways = 0; best = nest; }
      if (splits == fewest) ways++;
      int s = size - 1;
      while (s >= 0 && ++at[s] == stacks.get(s).size()) at[s--] = 0;
      if (s < 0) return new Solved(fewest, BigInteger.valueOf(ways), best);
    }
  }

  private static Solved byCosts(List<List<List<Integer>>> stacks) {
    int size = stacks.size();
    int[][] cost = new int[size][];
    BigInteger[][] ways = new BigInteger[size][];
    for (int s = size - 1; s >= 0; s--) {
      cost[s] = new int[stacks.get(s).size()];
      ways[s] = new BigInteger[cost[s].length];
      for (int i = 0; i < cost[s].length; i++) {
        cost[s][i] = s == size - 1 ? 0 : Integer.MAX_VALUE;
        ways[s][i] = s == size - 1 ? BigInteger.ONE : BigInteger.ZERO;
        for (int j = 0; s < size - 1 && j < cost[s + 1].length; j++) {
          int c = split(stacks.get(s).get(i), stacks.get(s + 1).get(j)).size() + cost[s + 1][j];
          if (c < cost[s][i]) { cost[s][i] = c; ways[s][i] = BigInteger.ZERO; }
          if (c == cost[s][i]) ways[s][i] = ways[s][i].add(ways[s + 1][j]);
        }
      }
    }
    int fewest = Arrays.stream(cost[0]).min().getAsInt();
    BigInteger all = BigInteger.ZERO;
    for (int i = 0; i < cost[0].length; i++) if (cost[0][i] == fewest) all = all.add(ways[0][i]);
    List<List<Integer>> nest = new ArrayList<>();
    int left = fewest;
    for (int s = 0; s < size; s++) {
      for (int i = 0; i < cost[s].length; i++) {
        int c = s == 0 ? 0 : split(nest.get(s - 1), stacks.get(s).get(i)).size();
        if (c + cost[s][i] == left) { nest.add(stacks.get(s).get(i)); left = cost[s][i]; break; }
      }
    }
    return new Solved(fewest, all, nest);
  }

  // ---- nodes

  private List<Node> nodeList() {
    if (listedFor != now) listed = makeNodes(nest().stacks);
    listedFor = now;
    return listed;
  }

  private List<Node> makeNodes(List<List<Integer>> stacks) {
    List<Integer> cuts = cuts(now.ranges);
    List<Node> nodes = new ArrayList<>();
    for (int r = 0; r < now.ranges.size(); r++) {
      if (now.ranges.get(r).empty()) nodes.add(emptyNode(r));
      else addPieces(nodes, r, stacks, cuts);
    }
    Comparator<Node> order = Comparator.comparingInt(n -> n.from);
    order = order.thenComparingInt(n -> n.first < 0 ? 0 : 1).thenComparingInt(n -> n.place);
    Collections.sort(nodes, order);
    for (Node n : nodes) for (Node m : nodes) if (m != n && lies(n, m, stacks)) n.depth++;
    for (Node n : nodes) {
      for (int k = 0; k < nodes.size(); k++) {
        Node m = nodes.get(k);
        if (m != n && lies(n, m, stacks) && (n.next == NONE || m.depth > nodes.get(n.next).depth)) n.next = k;
      }
    }
    return nodes;
  }

  private Node emptyNode(int r) {
    Node n = new Node();
    n.range = n.place = r;
    n.from = n.to = now.ranges.get(r).a;
    return n;
  }

  private static void addPieces(List<Node> nodes, int r, List<List<Integer>> stacks, List<Integer> cuts) {
    Node n = null;
    for (int s = 0; s < stacks.size(); s++) {
      int place = stacks.get(s).indexOf(r);
      if (place < 0) continue;
      if (n == null || split(stacks.get(s - 1), stacks.get(s)).contains(r)) {
        n = new Node();
        n.range = r;
        n.place = place;
        n.first = s;
        n.from = cuts.get(s);
        nodes.add(n);
      }
      n.last = s;
      n.to = cuts.get(s + 1);
    }
  }

  private static boolean lies(Node n, Node m, List<List<Integer>> stacks) {
    if (m.first < 0) return false;
    if (n.first < 0) return m.from < n.from && n.from < m.to;
    for (int s = n.first; s <= n.last; s++) {
      List<Integer> stack = stacks.get(s);
      if (s < m.first || s > m.last || stack.indexOf(m.range) >= stack.indexOf(n.range)) return false;
    }
    return true;
  }
}
