import java.util.Random;

/** Runs of calls drawn with a fixed seed, each answer looked up in PlainEgg. */
public final class RandomRunsTest {
  private static final Check check = new Check("RandomRunsTest");
  private static final int RUNS = 500;
  /** A part makes at most 148 calls, and an object need not answer behind 512. */
  private static final int PARTS = 3;
  private static final int[] LEAST = {2, 0, 0, 1, 0, 0};
  private static final int[] MOST = {12, 12, 300, 30, 60, 20};
  private final Random random;
  private final EggMinute x = new EggMinute();
  private final PlainEgg plain = new PlainEgg();
  private int kind;
  private int figure;
  private final int[] want = new int[4];

  private RandomRunsTest(int run) {
    random = new Random(run);
  }

  public static void main(String[] args) {
    for (int run = 0; run < RUNS; run++) {
      new RandomRunsTest(run).run();
    }
    check.end();
  }

  private int within(int least, int most) {
    return least + random.nextInt(most - least + 1);
  }

  private void run() {
    for (int part = 0; part < PARTS; part++) {
      drawFigures();
      drawDoing();
      drawWant();
      cook();
      reckon();
      drawDoing();
      cook();
      byHowMuch();
    }
  }

  private void drawFigures() {
    for (int what = 0; what < 6; what++) {
      int n = within(LEAST[what], MOST[what]);
      x.set(what, n);
      switch (what) {
        case 0: plain.shells = n; break;
        case 1: plain.y = n; break;
        case 2: plain.box = n; break;
        case 3: plain.pass = n; break;
        case 4: plain.age = n; break;
        default: plain.air = n;
      }
    }
    plain.fresh();
  }

  private void drawDoing() {
    kind = within(0, 7);
    figure = within(0, 60);
    x.keep(1, 1, kind, figure);
  }

  private void drawWant() {
    want[0] = within(0, 900);
    want[1] = within(want[0] / 2, 1200);
    want[2] = within(0, 900);
    want[3] = within(want[2] / 2, 1200);
    Check.numbers(x, 2, within(1, 2), want);
  }

  private void cook() {
    int n = within(1, random.nextBoolean() ? 10 : 400);
    plain.seconds(kind, figure, n);
    check.due("go", x.go(1, n), plain.second);
    int warmths = 0;
    int sets = 0;
    int peak = 0;
    for (int i = 0; i < plain.shells; i++) {
      check.due("warmth", x.shell(i, 0), plain.warmth[i]);
      check.due("peak", x.shell(i, 1), plain.peak[i]);
      check.due("set", x.shell(i, 2), plain.set[i]);
      check.due("yolk", x.shell(i, 3), i < plain.y ? 1 : 0);
      warmths += plain.warmth[i];
      sets += plain.set[i];
      peak = Math.max(peak, plain.peak[i]);
    }
    check.due("warmths", x.state(1), warmths);
    check.due("sets", x.state(2), sets);
    check.due("green", x.state(3), plain.green);
    check.due("loose", x.state(4), plain.loose());
    check.due("greatest peak", x.state(5), peak);
    check.due("spin", x.spin(), 2 * (20 - plain.loose()));
    check.due("had", x.had(2), plain.had(want) ? 1 : 0);
  }

  private void reckon() {
    check.due("least", x.least(1, 2), plain.least(kind, figure, want, 600));
    int n = within(1, 600);
    int[] near = plain.near(kind, figure, want, n);
    check.due("near, how far", x.near(1, 2, n, 0), near[0]);
    check.due("near, when", x.near(1, 2, n, 1), near[1]);
    int last = within(1, 300);
    int[] found = plain.found(want, last);
    check.due("found, figure", x.found(2, last, 0), found[0]);
    check.due("found, second", x.found(2, last, 1), found[1]);
  }

  private void byHowMuch() {
    int[] kinds = new int[within(1, 10)];
    for (int i = 0; i < kinds.length; i++) {
      kinds[i] = within(0, 7);
    }
    Check.numbers(x, 3, 0, kinds);
    int n = within(1, 600);
    check.due("bears", x.bears(3, figure, n), plain.bears(kinds, figure, n));
    check.due("off", x.off(1, n), plain.off(kind, figure, n));
    int shells = within(2, 12);
    int warmth = within(0, 1000);
    check.due("size", x.size(1, shells, warmth), plain.size(kind, figure, shells, warmth));
    check.due("table", x.table(1, shells, n), plain.table(kind, figure, shells, n));
    int warmer = PlainEgg.pot(kind, figure, 0) - plain.box;
    check.due("cracks", x.cracks(1), warmer > 900 - 20 * plain.air ? 1 : 0);
    boolean boiled = kind == 1 || kind > 3;
    check.due("peels", x.peels(1), Math.min(100, 3 * plain.age + (boiled ? 40 : 0)));
    check.due("the egg is as it was", x.state(0), plain.second);
  }
}
