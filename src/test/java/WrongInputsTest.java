import java.util.Random;

/**
 * Calls with whatever arguments, in whatever state: nothing is thrown but by element, a refused
 * call changes nothing, and the same calls give the same answers again.
 */
public final class WrongInputsTest {
  private static final Check check = new Check("WrongInputsTest");
  private static final int RUNS = 400;
  /** So many that with those that look at the object in the end there are 512. */
  private static final int CALLS = 500;
  private static final long THROWN = -1;
  private static final int[] ODD = {Integer.MIN_VALUE, Integer.MIN_VALUE + 1, -1000, -2, -1, 61, 100, 101, 300, 301,
    600, 601, 1200, 1201, 9999, 10000, 1 << 16, Integer.MAX_VALUE - 1, Integer.MAX_VALUE};

  public static void main(String[] args) {
    for (int run = 0; run < RUNS; run++) {
      run(run);
    }
    check.end();
  }

  /** The other object gets those calls alone that weren't refused, and must answer just the same. */
  private static void run(int run) {
    Random random = new Random(run);
    EggMinute x = new EggMinute();
    EggMinute other = new EggMinute();
    for (int i = 0; i < CALLS; i++) {
      int which = random.nextInt(31);
      int[] arguments = {any(random), any(random), any(random), any(random), any(random)};
      long answer = answerOrThrown(x, which, arguments);
      if (answer >= 0) {
        check.due("run " + run + ", call " + i + " beside refused ones", answerOrThrown(other, which, arguments), answer);
      }
    }
    for (int what = 0; what < 6; what++) {
      check.due("run " + run + ", state " + what, x.state(what), other.state(what));
      check.due("run " + run + ", count " + what, x.count(what), other.count(what));
    }
  }

  private static int any(Random random) {
    int which = random.nextInt(20);
    return which == 0 ? ODD[random.nextInt(ODD.length)] : which < 3 ? random.nextInt(61) : random.nextInt(9);
  }

  private static long answerOrThrown(EggMinute x, int which, int[] a) {
    try {
      return answer(x, which, a);
    } catch (IllegalArgumentException thrown) {
      check.dueTrue("only element throws IllegalArgumentException", which == 26 && (a[0] < 0 || a[0] > 7));
    } catch (IllegalStateException thrown) {
      check.dueTrue("only element throws IllegalStateException", which == 26 && a[0] >= 0 && a[0] <= 7);
    } catch (RuntimeException thrown) {
      check.dueTrue("call " + which + " threw " + thrown, false);
    }
    return THROWN;
  }

  private static long answer(EggMinute x, int which, int[] a) {
    switch (which) {
      case 0: return x.egg(a[0]);
      case 1: return x.set(a[0], a[1]);
      case 2: return x.shell(a[0], a[1]);
      case 3: return x.fresh();
      case 4: return x.pot(a[0], a[1]);
      case 5: return x.go(a[0], a[1]);
      case 6: return x.state(a[0]);
      case 7: return x.had(a[0]);
      case 8: return x.least(a[0], a[1]);
      case 9: return x.near(a[0], a[1], a[2], a[3]);
      case 10: return x.found(a[0], a[1], a[2]);
      case 11: return x.bears(a[0], a[1], a[2]);
      case 12: return x.off(a[0], a[1]);
      case 13: return x.size(a[0], a[1], a[2]);
      case 14: return x.table(a[0], a[1], a[2]);
      case 15: return x.cracks(a[0]);
      case 16: return x.peels(a[0]);
      case 17: return x.spin();
      case 18: return x.told(a[0], a[1], a[2] > 4);
      case 19: return x.judge(a[0], a[1], a[2]);
      case 20: return x.image();
      case 21: return x.restore();
      case 22: return x.count(a[0]);
      case 23: return x.keep(a[0], a[1] % 2, a[2], a[3]);
      case 24: return x.row(a[0], a[1] % 3, a[2]);
      case 25: return x.put(a[0], a[1], a[2]);
      case 26: return x.element(a[0], a[1]);
      case 27: return x.copy(a[0], a[1], a[2], a[3], a[4]);
      case 28: return x.weight(a[0]);
      case 29: return x.toss(a[0]);
      default: return x.keep(a[0], 1, a[2], a[3]);
    }
  }
}
