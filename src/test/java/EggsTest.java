/** Promises 1 to 5: a new object, egg, set, shell, fresh. */
public final class EggsTest {
  private static final Check check = new Check("EggsTest");
  private static final int[] FIRST = {6, 3, 50, 10, 7, 3};
  private static final int[] LEAST = {2, 0, 0, 1, 0, 0};
  private static final int[] MOST = {12, 12, 300, 30, 60, 20};
  private static final String LETTERS = "nybpai";

  public static void main(String[] args) {
    newObject();
    eggReads();
    eggKeepsTheRest();
    eggFaults();
    eggRangeFaults();
    eggFaultChangesNothing();
    eggRefusals();
    setRanges();
    setMakesFresh();
    shells();
    fresh();
    check.end();
  }

  private static void newObject() {
    EggMinute x = new EggMinute();
    for (int what = 0; what < 6; what++) {
      check.due("new: count(" + what + ")", x.count(what), FIRST[what]);
    }
    for (int i = 0; i < 6; i++) {
      check.due("new: warmth", x.shell(i, 0), 50);
      check.due("new: peak", x.shell(i, 1), 50);
      check.due("new: set", x.shell(i, 2), 0);
      check.due("new: yolk", x.shell(i, 3), i < 3 ? 1 : 0);
    }
    check.due("new: second", x.state(0), 0);
    check.due("new: all warmths", x.state(1), 300);
    check.due("new: all set", x.state(2), 0);
    check.due("new: green", x.state(3), 0);
    check.due("new: loose", x.state(4), 6);
    check.due("new: greatest peak", x.state(5), 50);
    check.due("new: no image", x.restore(), -3);
    for (int d = 0; d < 8; d++) {
      check.due("new: shelf " + d, x.toss(d), -11);
    }
  }

  private static int read(EggMinute x, String text) {
    Check.text(x, 0, text);
    return x.egg(0);
  }

  private static void eggReads() {
    EggMinute x = new EggMinute();
    check.due("egg of six", read(x, "i1;a2;p3;b4;y5;n7;"), 6);
    int[] now = {7, 5, 4, 3, 2, 1};
    for (int what = 0; what < 6; what++) {
      check.due("egg of six: count(" + what + ")", x.count(what), now[what]);
    }
    check.due("egg: fresh warmth is the new box", x.shell(6, 0), 4);
    check.due("egg: fresh peak is the new box", x.shell(6, 1), 4);
    check.due("egg: the same twice", read(x, "b1;b300;b20;"), 3);
    check.due("egg: the last one stays", x.count(2), 20);
    StringBuilder longest = new StringBuilder();
    for (int i = 0; i < 25; i++) {
      longest.append("b").append(10 + i).append(";");
    }
    check.due("egg of 100 bytes", read(x, longest.toString()), 25);
    check.due("egg of 100 bytes: box", x.count(2), 34);
  }

  private static void eggKeepsTheRest() {
    EggMinute x = new EggMinute();
    x.set(0, 9);
    x.set(4, 33);
    x.keep(1, 1, 1, 0);
    x.go(1, 200);
    check.due("egg y4", read(x, "y4;"), 1);
    check.due("egg keeps shells", x.count(0), 9);
    check.due("egg keeps age", x.count(4), 33);
    check.due("egg takes y", x.count(1), 4);
    check.due("egg is fresh: second", x.state(0), 0);
    check.due("egg is fresh: warmths", x.state(1), 450);
    check.due("egg is fresh: set", x.state(2), 0);
    check.due("egg is fresh: green", x.state(3), 0);
    check.due("egg is fresh: peak", x.state(5), 50);
    check.due("egg leaves the doing", x.pot(1, 0), 1000);
    check.due("egg leaves the text", x.element(0, 0), 'y');
  }

  private static void eggFaults() {
    String[] texts = {"", "n", "n5", "n5;y", "n5;y3", "x", "n5;x", "N5;", "n;", "n5;;", ";", "5;", "nn5;", "n05;",
      "n00;", "b0000;", "b1234;", "b1000;", "b12x;", "b1x", "b12", "b123", "b123x", "n 5;", " n5;", "n5; ", "n5,",
      "n-5;", "n5;n05;", "n5:", "n/;", "n5/", "b12/", "b12:", "n:;", "n13;x", "b301;b3", "o5;", "m5;"};
    int[] places = {0, 1, 2, 4, 5, 0, 3, 0, 1, 3, 0, 0, 1, 2,
      2, 2, 4, 4, 3, 2, 3, 4, 4, 1, 0, 3, 2,
      1, 5, 2, 1, 2, 3, 3, 1, 4, 7, 0, 0};
    for (int i = 0; i < texts.length; i++) {
      check.due("egg \"" + texts[i] + "\"", read(new EggMinute(), texts[i]), -1000 - places[i]);
    }
    EggMinute x = new EggMinute();
    Check.numbers(x, 0, 0, 'n', '5', ';', 200);
    check.due("egg: a byte below 0", x.egg(0), -1003);
    Check.numbers(x, 0, 0, 'n' + 256, '5', ';' + 512);
    check.due("egg: only the lowest bits count", x.egg(0), 1);
    x.row(0, 0, 100);
    x.put(0, 0, 'n');
    check.due("egg: bytes 0", x.egg(0), -1001);
    StringBuilder cut = new StringBuilder();
    for (int i = 0; i < 25; i++) {
      cut.append("b100");
      cut.setLength(4 * i + 3);
      cut.append(i < 24 ? ";" : "7");
    }
    check.due("egg of 100 bytes that ends too early", read(x, cut.toString()), -1100);
  }

  private static void eggRangeFaults() {
    for (int what = 0; what < 6; what++) {
      char letter = LETTERS.charAt(what);
      check.due("egg " + letter + LEAST[what], read(new EggMinute(), letter + "" + LEAST[what] + ";"), 1);
      check.due("egg " + letter + MOST[what], read(new EggMinute(), letter + "" + MOST[what] + ";"), 1);
      int above = read(new EggMinute(), letter + "" + (MOST[what] + 1) + ";");
      check.due("egg " + letter + " above its most", above, -2000);
      check.due("egg " + letter + "999", read(new EggMinute(), letter + "999;"), -2000);
      if (LEAST[what] > 0) {
        int below = read(new EggMinute(), letter + "" + (LEAST[what] - 1) + ";");
        check.due("egg " + letter + " below its least", below, -2000);
      }
    }
    check.due("egg: the first out of range", read(new EggMinute(), "n5;b300;p0;n1;"), -2008);
    check.due("egg: kind 1 comes first", read(new EggMinute(), "n1;p0;z"), -1006);
  }

  private static void eggFaultChangesNothing() {
    EggMinute x = new EggMinute();
    x.keep(1, 1, 1, 0);
    x.go(1, 30);
    int all = x.state(1);
    check.due("fault 2", read(x, "n5;b9;p31;"), -2006);
    check.due("fault 1", read(x, "n5;b9;p3"), -1008);
    check.due("fault: shells", x.count(0), 6);
    check.due("fault: box", x.count(2), 50);
    check.due("fault: second", x.state(0), 30);
    check.due("fault: warmths", x.state(1), all);
    check.due("go on behind a fault", x.go(1, 1), 31);
  }

  private static void eggRefusals() {
    EggMinute x = new EggMinute();
    check.due("egg(-1)", x.egg(-1), -1);
    check.due("egg(8)", x.egg(8), -1);
    check.due("egg of nothing", x.egg(7), -11);
    x.keep(7, 1, 1, 0);
    check.due("egg of a doing", x.egg(7), -12);
    x.row(7, 1, 3);
    check.due("egg of shorts", x.egg(7), -12);
    x.row(7, 2, 3);
    check.due("egg of ints", x.egg(7), -12);
  }

  private static void setRanges() {
    for (int what = 0; what < 6; what++) {
      EggMinute x = new EggMinute();
      check.due("set below", x.set(what, LEAST[what] - 1), -1);
      check.due("set above", x.set(what, MOST[what] + 1), -1);
      check.due("set far below", x.set(what, Integer.MIN_VALUE), -1);
      check.due("set far above", x.set(what, Integer.MAX_VALUE), -1);
      check.due("refused set changes nothing", x.set(what, LEAST[what]), FIRST[what]);
      check.due("set the most", x.set(what, MOST[what]), LEAST[what]);
      check.due("set again", x.set(what, FIRST[what]), MOST[what]);
    }
    EggMinute x = new EggMinute();
    check.due("set(-1, 5)", x.set(-1, 5), -1);
    check.due("set(6, 5)", x.set(6, 5), -1);
    x.set(0, 2);
    x.set(1, 12);
    check.due("set tells Y, not the yolk's shells", x.set(1, 4), 12);
  }

  private static void setMakesFresh() {
    for (int what = 0; what < 6; what++) {
      EggMinute x = new EggMinute();
      x.keep(1, 1, 1, 0);
      x.go(1, 300);
      x.set(what, -1);
      check.due("a refused set leaves the second", x.state(0), 300);
      x.set(what, FIRST[what]);
      check.due("set: second", x.state(0), 0);
      check.due("set: warmths", x.state(1), 300);
      check.due("set: set", x.state(2), 0);
      check.due("set: green", x.state(3), 0);
      check.due("set: greatest peak", x.state(5), 50);
    }
    EggMinute x = new EggMinute();
    x.set(2, 300);
    check.due("set box: warmth", x.shell(0, 0), 300);
    x.set(2, 0);
    check.due("set box: warmth 0", x.shell(5, 0), 0);
    check.due("set box: peak 0", x.shell(5, 1), 0);
    x.set(0, 12);
    check.due("set shells: the last one", x.shell(11, 0), 0);
  }

  private static void shells() {
    EggMinute x = Check.eggOf("n2;y1;b0;p10;");
    x.keep(1, 1, 1, 0);
    x.go(1, 1);
    check.due("second 1, shell 0", x.shell(0, 0), 0);
    check.due("second 1, shell 1", x.shell(1, 0), 150);
    x.go(1, 1);
    check.due("second 2, shell 0", x.shell(0, 0), 22);
    check.due("second 2, shell 1", x.shell(1, 0), 255);
    x.go(1, 1);
    check.due("second 3, shell 0", x.shell(0, 0), 56);
    check.due("second 3, shell 1", x.shell(1, 0), 332);
    check.due("yolk", x.shell(0, 3), 1);
    check.due("white", x.shell(1, 3), 0);
    check.due("shell(-1, 0)", x.shell(-1, 0), -1);
    check.due("shell(2, 0)", x.shell(2, 0), -1);
    check.due("shell(2, 3)", x.shell(2, 3), -1);
    check.due("shell(12, 0)", x.shell(12, 0), -1);
    check.due("shell(0, -1)", x.shell(0, -1), -1);
    check.due("shell(0, 4)", x.shell(0, 4), -1);
    EggMinute cold = Check.eggOf("n2;y1;b300;p10;");
    cold.keep(1, 1, 5, 0);
    cold.go(1, 2);
    check.due("cooled, shell 0", cold.shell(0, 0), 294);
    check.due("cooled, shell 1", cold.shell(1, 0), 229);
    check.due("cooled, its peak stays", cold.shell(1, 1), 300);
    EggMinute set = Check.eggOf("n2;y0;b300;p30;");
    set.keep(1, 1, 1, 0);
    set.go(1, 1);
    check.due("615 is below the line", set.shell(1, 2), 0);
    set.go(1, 1);
    check.due("647", set.shell(1, 0), 647);
    check.due("647 is set by 3", set.shell(1, 2), 3);
    check.due("the middle isn't", set.shell(0, 2), 0);
    EggMinute yolk = Check.eggOf("n2;y12;");
    check.due("all yolk", yolk.shell(1, 3), 1);
    check.due("no shell 2", yolk.shell(2, 3), -1);
  }

  private static void fresh() {
    EggMinute x = Check.eggOf("n9;b70;");
    x.keep(1, 1, 1, 0);
    x.go(1, 600);
    check.due("fresh", x.fresh(), 9);
    check.due("fresh: second", x.state(0), 0);
    check.due("fresh: warmths", x.state(1), 630);
    check.due("fresh: set", x.state(2), 0);
    check.due("fresh: green", x.state(3), 0);
    check.due("fresh: greatest peak", x.state(5), 70);
    check.due("fresh: figures stay", x.count(2), 70);
    check.due("fresh: doings stay", x.go(1, 5), 5);
  }
}
