/** Promises 6 to 9: pot, go, state, had. */
public final class DoingsTest {
  private static final Check check = new Check("DoingsTest");

  public static void main(String[] args) {
    pots();
    potRefusals();
    goes();
    goCountsOn();
    goRefusals();
    states();
    greens();
    had();
    hadRefusals();
    check.end();
  }

  private static void pot(int kind, int figure, int t, int warmth) {
    EggMinute x = new EggMinute();
    x.keep(3, 1, kind, figure);
    check.due("pot of kind " + kind + ", figure " + figure + " at " + t, x.pot(3, t), warmth);
  }

  private static void pots() {
    pot(0, 0, 0, 200);
    pot(0, 60, 9999, 200);
    pot(1, 60, 9999, 1000);
    pot(2, 0, 0, 100);
    pot(2, 0, 1, 101);
    pot(2, 9, 7, 107);
    pot(2, 10, 7, 114);
    pot(2, 60, 100, 800);
    pot(2, 60, 128, 996);
    pot(2, 60, 129, 1000);
    pot(2, 0, 900, 1000);
    pot(2, 0, 9999, 1000);
    pot(3, 0, 0, 600);
    pot(3, 1, 5, 602);
    pot(3, 60, 9999, 720);
    pot(4, 0, 0, 1000);
    pot(4, 0, 1, 300);
    pot(4, 0, 2, 1000);
    pot(4, 0, 9999, 300);
    pot(4, 60, 60, 1000);
    pot(4, 60, 61, 300);
    pot(4, 60, 121, 300);
    pot(4, 60, 122, 1000);
    pot(5, 0, 0, 20);
    pot(5, 1, 9, 1000);
    pot(5, 1, 10, 20);
    pot(5, 60, 599, 1000);
    pot(5, 60, 600, 20);
    pot(6, 0, 0, 1000);
    pot(6, 0, 1, 1000);
    pot(6, 60, 0, 700);
    pot(6, 60, 299, 999);
    pot(6, 60, 300, 1000);
    pot(6, 60, 301, 1000);
    pot(7, 0, 0, 1000);
    pot(7, 1, 0, 996);
    pot(7, 60, 9999, 760);
  }

  private static void potRefusals() {
    EggMinute x = new EggMinute();
    x.keep(0, 1, 1, 0);
    check.due("pot(-1, 0)", x.pot(-1, 0), -1);
    check.due("pot(8, 0)", x.pot(8, 0), -1);
    check.due("pot(0, -1)", x.pot(0, -1), -1);
    check.due("pot(0, 9999)", x.pot(0, 9999), 1000);
    check.due("pot(0, 10000)", x.pot(0, 10000), -1);
    check.due("pot of nothing", x.pot(1, 0), -11);
    check.due("pot: -1 comes first", x.pot(1, -1), -1);
    x.row(1, 2, 4);
    check.due("pot of a row", x.pot(1, 0), -12);
  }

  private static void goes() {
    EggMinute x = Check.eggOf("n3;y2;b100;p7;");
    x.keep(1, 1, 1, 0);
    check.due("go", x.go(1, 1), 1);
    // 10 hundredths in the white: 90 from the pot
    check.due("go: outmost", x.shell(2, 0), 190);
    check.due("go: next", x.shell(1, 0), 100);
    check.due("go 2", x.go(1, 1), 2);
    // 10 hundredths of 90 go on to the yolk, 10 of 810 come from the pot
    check.due("go 2: outmost", x.shell(2, 0), 262);
    check.due("go 2: next", x.shell(1, 0), 109);
    check.due("go 2: middle", x.shell(0, 0), 100);
    check.due("go 3", x.go(1, 1), 3);
    // 15.3 from the outmost, 0.63 to the middle: cut
    check.due("go 3: outmost", x.shell(2, 0), 262 - 15 + 73);
    check.due("go 3: next", x.shell(1, 0), 124);
    check.due("go 3: middle", x.shell(0, 0), 100);
    x.go(1, 1);
    // 19.6 from the outmost, 1.68 to the middle
    check.due("go 4: next", x.shell(1, 0), 124 + 19 - 1);
    check.due("go 4: middle", x.shell(0, 0), 101);
  }

  private static void goCountsOn() {
    EggMinute x = Check.eggOf("n2;y0;b0;p2;");
    x.keep(1, 1, 4, 1);
    x.keep(2, 1, 0, 0);
    x.go(2, 2);
    int before = x.shell(1, 0);
    x.go(1, 1);
    // second 2 is in the second turn: 300, not 1000
    check.due("t goes on from the egg's second", x.shell(1, 0), before + 3 * (300 - before) / 100);
    EggMinute whole = new EggMinute();
    EggMinute parts = new EggMinute();
    whole.keep(0, 1, 2, 25);
    parts.keep(0, 1, 2, 25);
    check.due("whole", whole.go(0, 400), 400);
    check.due("part 1", parts.go(0, 150), 150);
    check.due("part 2", parts.go(0, 250), 400);
    for (int what = 0; what < 6; what++) {
      check.due("parts make the whole: state(" + what + ")", parts.state(what), whole.state(what));
    }
  }

  private static void goRefusals() {
    EggMinute x = new EggMinute();
    x.keep(0, 1, 1, 0);
    x.row(1, 0, 3);
    check.due("go(-1, 1)", x.go(-1, 1), -1);
    check.due("go(8, 1)", x.go(8, 1), -1);
    check.due("go(0, 0)", x.go(0, 0), -1);
    check.due("go(0, 601)", x.go(0, 601), -1);
    check.due("go(0, -5)", x.go(0, -5), -1);
    check.due("go by nothing", x.go(2, 1), -11);
    check.due("go by a row", x.go(1, 1), -12);
    check.due("refused goes change nothing", x.state(0), 0);
    for (int i = 1; i <= 16; i++) {
      check.due("go far", x.go(0, 600), 600 * i);
    }
    check.due("go beyond 9999", x.go(0, 400), -2);
    check.due("beyond comes ahead of nothing held", x.go(2, 400), -2);
    check.due("beyond comes ahead of another kind", x.go(1, 400), -2);
    check.due("-1 comes ahead of beyond", x.go(8, 400), -1);
    check.due("-1 for n comes ahead of beyond", x.go(0, 601), -1);
    check.due("the second stays", x.state(0), 9600);
    check.due("go to 9999", x.go(0, 399), 9999);
    check.due("no more", x.go(0, 1), -2);
    check.due("set no more than 9999 a shell", x.shell(5, 2), 9999);
    check.due("all set", x.state(2), 6 * 9999);
    x.fresh();
    check.due("fresh again", x.go(0, 600), 600);
  }

  private static void states() {
    EggMinute x = Check.eggOf("n2;y1;b0;p10;");
    x.keep(1, 1, 1, 0);
    x.keep(2, 1, 0, 0);
    x.go(1, 3);
    check.due("the greatest peak of a fresh egg may be 0", Check.eggOf("b0;").state(5), 0);
    check.due("second", x.state(0), 3);
    check.due("all warmths", x.state(1), 388);
    check.due("greatest peak", x.state(5), 332);
    x.go(2, 60);
    check.due("the greatest peak stays", x.state(5), 332);
    check.due("state(-1)", x.state(-1), -1);
    check.due("state(6)", x.state(6), -1);
    EggMinute one = Check.eggOf("n2;y0;b300;p30;");
    one.keep(1, 1, 1, 0);
    one.go(1, 2);
    check.due("all set 3", one.state(2), 3);
    check.due("loose", one.state(4), 2);
    int seconds = 0;
    while (one.shell(1, 2) < 100 && seconds < 100) {
      check.due("still loose", one.state(4), 2);
      one.go(1, 1);
      seconds++;
    }
    check.due("one is no longer loose", one.state(4), 1);
    check.due("the sum of both", one.state(2), one.shell(0, 2) + one.shell(1, 2));
  }

  private static void greens() {
    EggMinute none = Check.eggOf("y0;p30;");
    none.keep(1, 1, 1, 0);
    none.go(1, 600);
    check.due("no yolk, no green", none.state(3), 0);
    for (int y = 1; y <= 12; y += 4) {
      EggMinute x = Check.eggOf("n5;p30;y" + y + ";");
      x.keep(1, 1, 1, 0);
      int due = 0;
      int outmost = Math.min(y, 5) - 1;
      for (int s = 1; s <= 60; s++) {
        x.go(1, 1);
        due += x.shell(outmost, 0) >= 750 ? 1 : 0;
        check.due("green of y" + y + " at " + s, x.state(3), due);
      }
      check.dueTrue("it greens in the end", due > 0);
    }
  }

  private static int hadOf(EggMinute x, int sort, int... four) {
    Check.numbers(x, 6, sort, four);
    return x.had(6);
  }

  private static void had() {
    EggMinute x = Check.eggOf("n2;y1;b0;p10;");
    x.keep(1, 1, 1, 0);
    x.go(1, 3);
    // peaks: yolk 56, white 332
    check.due("had, just", hadOf(x, 1, 332, 332, 56, 56), 1);
    check.due("had, wide, ints", hadOf(x, 2, 0, 1200, 0, 1200), 1);
    check.due("white below", hadOf(x, 1, 333, 400, 56, 56), 0);
    check.due("white above", hadOf(x, 1, 300, 331, 56, 56), 0);
    check.due("yolk below", hadOf(x, 1, 332, 332, 57, 60), 0);
    check.due("yolk above", hadOf(x, 1, 332, 332, 50, 55), 0);
    check.due("two the wrong way round", hadOf(x, 1, 400, 300, 0, 1200), 0);
    x.keep(2, 1, 0, 0);
    x.go(2, 300);
    check.due("peaks, not warmths", hadOf(x, 2, 332, 332, 0, 1200), 1);
    EggMinute white = Check.eggOf("y0;");
    check.due("no yolk: its two don't count", hadOf(white, 1, 50, 50, 1000, 0), 1);
    EggMinute yolk = Check.eggOf("y12;");
    check.due("no white: its two don't count", hadOf(yolk, 1, 1000, 0, 50, 50), 1);
  }

  private static void hadRefusals() {
    EggMinute x = new EggMinute();
    check.due("had(-1)", x.had(-1), -1);
    check.due("had(8)", x.had(8), -1);
    check.due("had of nothing", x.had(6), -11);
    x.keep(6, 1, 1, 1);
    check.due("had of a doing", x.had(6), -12);
    check.due("had of bytes", hadOf(x, 0, 0, 1, 0, 1), -12);
    check.due("had of three", hadOf(x, 1, 0, 1, 0), -13);
    check.due("had of five", hadOf(x, 1, 0, 1, 0, 1, 0), -13);
    check.due("had of none", hadOf(x, 2), -13);
    for (int i = 0; i < 4; i++) {
      int[] four = {0, 1200, 0, 1200};
      four[i] = 1201;
      check.due("a warmth of 1201", hadOf(x, 1, four), -13);
      four[i] = -1;
      check.due("a warmth of -1", hadOf(x, 2, four), -13);
    }
    check.due("1200 is one", hadOf(x, 1, 0, 1200, 0, 1200), 1);
  }
}
