/**
 * The document's rules told once more, as slowly and plainly as they can be, with nothing shared
 * with the class under test: what the random runs look answers up in.
 */
final class PlainEgg {
  int shells = 6;
  int y = 3;
  int box = 50;
  int pass = 10;
  int age = 7;
  int air = 3;
  int second = 0;
  int green = 0;
  int[] warmth;
  int[] peak;
  int[] set;

  PlainEgg() {
    fresh();
  }

  PlainEgg like() {
    PlainEgg egg = new PlainEgg();
    egg.shells = shells;
    egg.y = y;
    egg.box = box;
    egg.pass = pass;
    egg.age = age;
    egg.air = air;
    egg.fresh();
    return egg;
  }

  PlainEgg likeWithShells(int n) {
    PlainEgg egg = like();
    egg.shells = n;
    egg.fresh();
    return egg;
  }

  PlainEgg likeWithBox(int n) {
    PlainEgg egg = like();
    egg.box = n;
    egg.fresh();
    return egg;
  }

  void fresh() {
    second = 0;
    green = 0;
    warmth = new int[shells];
    peak = new int[shells];
    set = new int[shells];
    java.util.Arrays.fill(warmth, box);
    java.util.Arrays.fill(peak, box);
  }

  static int pot(int kind, int figure, int t) {
    if (kind == 0) return 200;
    if (kind == 1) return 1000;
    if (kind == 2) return Math.min(1000, 100 + t * (1 + figure / 10));
    if (kind == 3) return 600 + 2 * figure;
    if (kind == 4) {
      boolean boiled = true;
      for (int left = t; left > figure; left -= figure + 1) boiled = !boiled;
      return boiled ? 1000 : 300;
    }
    if (kind == 5) return t >= 10 * figure ? 20 : 1000;
    if (kind == 6) return Math.min(1000, 1000 - 5 * figure + t);
    return 1000 - 4 * figure;
  }

  private int hundredths(int shell) {
    return shell < y ? pass : pass * 3 / 2;
  }

  private static int cut(int hundredths, int difference) {
    int much = hundredths * Math.abs(difference) / 100;
    return difference < 0 ? -much : much;
  }

  void second(int kind, int figure) {
    int[] was = warmth.clone();
    for (int i = 0; i < shells; i++) {
      int inside = i == 0 ? 0 : cut(hundredths(i), was[i - 1] - was[i]);
      boolean outmost = i == shells - 1;
      int outside = outmost
          ? cut(hundredths(i), pot(kind, figure, second) - was[i])
          : cut(hundredths(i + 1), was[i + 1] - was[i]);
      warmth[i] = was[i] + inside + outside;
      int line = i < y ? 640 : 620;
      if (warmth[i] > line) {
        set[i] = Math.min(9999, set[i] + 1 + (warmth[i] - line) / 10);
      }
      if (warmth[i] > peak[i]) peak[i] = warmth[i];
      boolean outmostYolk = i < y && (i + 1 >= y || outmost);
      if (outmostYolk && warmth[i] >= 750) green++;
    }
    second++;
  }

  void seconds(int kind, int figure, int n) {
    for (int i = 0; i < n; i++) second(kind, figure);
  }

  boolean had(int[] want) {
    for (int i = 0; i < shells; i++) {
      int least = i < y ? want[2] : want[0];
      int most = i < y ? want[3] : want[1];
      if (peak[i] < least || peak[i] > most) return false;
    }
    return true;
  }

  int off(int[] want) {
    int off = 0;
    for (int i = 0; i < shells; i++) {
      int least = i < y ? want[2] : want[0];
      int most = i < y ? want[3] : want[1];
      if (peak[i] < least) off += least - peak[i];
      if (peak[i] > most) off += peak[i] - most;
    }
    return off;
  }

  int least(int kind, int figure, int[] want, int last) {
    PlainEgg egg = like();
    for (int s = 1; s <= last; s++) {
      egg.second(kind, figure);
      if (egg.had(want)) return s;
    }
    return -4;
  }

  /** How far off, and the SECOND of that. */
  int[] near(int kind, int figure, int[] want, int last) {
    PlainEgg egg = like();
    int[] best = {Integer.MAX_VALUE, 0};
    for (int s = 1; s <= last; s++) {
      egg.second(kind, figure);
      if (egg.off(want) < best[0]) {
        best[0] = egg.off(want);
        best[1] = s;
      }
    }
    return best;
  }

  /** The FIGURE and the SECOND, or -4 twice. */
  int[] found(int[] want, int last) {
    int[] best = {-4, -4};
    for (int figure = 0; figure <= 60; figure++) {
      int s = least(4, figure, want, last);
      if (s != -4 && (best[1] == -4 || s < best[1])) {
        best[0] = figure;
        best[1] = s;
      }
    }
    return best;
  }

  int bears(int[] kinds, int figure, int n) {
    int place = -1;
    int least = 0;
    for (int i = 0; i < kinds.length; i++) {
      PlainEgg cold = likeWithBox(40);
      PlainEgg warm = likeWithBox(200);
      cold.seconds(kinds[i], figure, n);
      warm.seconds(kinds[i], figure, n);
      int differ = Math.abs(warm.peak[0] - cold.peak[0]);
      if (place < 0 || differ < least) {
        place = i;
        least = differ;
      }
    }
    return place;
  }

  int table(int kind, int figure, int n, int t) {
    PlainEgg egg = likeWithShells(n);
    egg.seconds(kind, figure, t);
    return egg.warmth[0];
  }

  int off(int kind, int figure, int n) {
    return shells == 12
        ? table(kind, figure, 12, n) - table(kind, figure, 11, n)
        : table(kind, figure, shells + 1, n) - table(kind, figure, shells, n);
  }

  int size(int kind, int figure, int n, int told) {
    PlainEgg egg = likeWithShells(n);
    for (int s = 1; s <= 600; s++) {
      egg.second(kind, figure);
      if (egg.warmth[0] >= told) return s;
    }
    return -4;
  }

  int loose() {
    int loose = 0;
    for (int i = 0; i < shells; i++) loose += set[i] < 100 ? 1 : 0;
    return loose;
  }
}
