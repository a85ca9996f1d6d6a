/** Texts made in one line, and all that can be asked of one, as one string. */
final class Texts {
  static final int MIN = Integer.MIN_VALUE, MAX = Integer.MAX_VALUE;

  private Texts() {
  }

  /** A text of 40 places with ranges of kind, a, b each. */
  static NestRanges with(int... ranges) {
    return add(new NestRanges(), ranges);
  }

  /** A text of l places with ranges of kind, a, b each. */
  static NestRanges of(int l, int... ranges) {
    NestRanges x = new NestRanges();
    x.anew(l);
    return add(x, ranges);
  }

  private static NestRanges add(NestRanges x, int... ranges) {
    for (int i = 0; i + 2 < ranges.length; i += 3) {
      int number = x.range(ranges[i], ranges[i + 1], ranges[i + 2]);
      if (number != i / 3) throw new IllegalStateException("range " + i / 3 + " answered " + number);
    }
    return x;
  }

  /** The ranges alone: kind, a and b of each. */
  static String ranges(NestRanges x) {
    StringBuilder text = new StringBuilder();
    for (int r = 0; r < x.told(3); r++) {
      if (r > 0) text.append(", ");
      text.append(x.of(r, 0)).append(' ').append(x.of(r, 1)).append(' ').append(x.of(r, 2));
    }
    return text.toString();
  }

  /** The stack of each section in the nest, outermost first. */
  static String stacks(NestRanges x) {
    StringBuilder text = new StringBuilder();
    int sections = x.told(5);
    for (int s = 0; s < sections; s++) {
      if (s > 0) text.append(" | ");
      int deep = x.section(s, 2);
      for (int k = 0; k < deep; k++) text.append(k > 0 ? " " : "").append(x.stack(s, k));
    }
    return text.toString();
  }

  /** Range, from, to, depth and next of each node. */
  static String nodes(NestRanges x) {
    StringBuilder text = new StringBuilder();
    int nodes = x.nodes();
    for (int k = 0; k < nodes; k++) {
      if (k > 0) text.append(", ");
      for (int w = 0; w < 5; w++) text.append(w > 0 ? " " : "").append(x.node(k, w));
    }
    return text.toString();
  }

  /** Beginning, end and covers of each section. */
  static String sections(NestRanges x) {
    StringBuilder text = new StringBuilder();
    int sections = x.told(5);
    for (int s = 0; s < sections; s++) {
      if (s > 0) text.append(", ");
      for (int w = 0; w < 3; w++) text.append(w > 0 ? " " : "").append(x.section(s, w));
    }
    return text.toString();
  }

  /** All but how often was refused. It takes up to some 350 of an object's 512 calls. */
  static String view(NestRanges x) {
    StringBuilder text = new StringBuilder();
    for (int w = 3; w <= 7; w++) text.append(x.told(w)).append(' ');
    text.append('\n').append(ranges(x)).append('\n').append(sections(x)).append('\n').append(stacks(x)).append('\n');
    text.append(nodes(x)).append('\n');
    for (int w = 0; w < 5; w++) text.append(x.all(w)).append(' ');
    text.append(x.least()).append(' ').append(x.ways()).append(' ').append(x.plain()).append(' ').append(x.free());
    return text.append(' ').append(x.without(0)).append(' ').append(x.without(1)).toString();
  }
}
