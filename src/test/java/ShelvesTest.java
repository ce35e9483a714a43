/** Promises 25 to 31: keep, row, put, element, copy, weight, toss. */
public final class ShelvesTest {
  private static final Check check = new Check("ShelvesTest");

  public static void main(String[] args) {
    keep();
    row();
    put();
    element();
    copy();
    copyRefusals();
    weight();
    toss();
    check.end();
  }

  private static void keep() {
    EggMinute x = new EggMinute();
    for (int d = 0; d < 8; d++) {
      check.due("keep on " + d, x.keep(d, 1, 7, d), 0);
    }
    for (int d = 0; d < 8; d++) {
      check.due("kept on " + d, x.pot(d, 0), 1000 - 4 * d);
    }
    check.due("keep(-1, 1, 1, 1)", x.keep(-1, 1, 1, 1), -1);
    check.due("keep(8, 1, 1, 1)", x.keep(8, 1, 1, 1), -1);
    check.due("keep(0, -1, 1, 1)", x.keep(0, -1, 1, 1), -1);
    check.due("keep(0, 2, 1, 1)", x.keep(0, 2, 1, 1), -1);
    check.due("keep(0, 1, -1, 1)", x.keep(0, 1, -1, 1), -1);
    check.due("keep(0, 1, 8, 1)", x.keep(0, 1, 8, 1), -1);
    check.due("keep(0, 1, 1, -1)", x.keep(0, 1, 1, -1), -1);
    check.due("keep(0, 1, 1, 61)", x.keep(0, 1, 1, 61), -1);
    check.due("keep(8, 0, 0, 0)", x.keep(8, 0, 0, 0), -1);
    check.due("refused keeps change nothing", x.weight(0), 6);
    check.due("keep of 60", x.keep(0, 1, 2, 60), 0);
    check.due("kept 60", x.weight(0), 73);
    check.due("keep nothing", x.keep(0, 0, 0, 0), 0);
    check.due("nothing kept", x.pot(0, 0), -11);
    check.due("keep nothing again", x.keep(0, 0, 0, 0), 0);
    check.due("keep nothing, whatever kind and figure", x.keep(1, 0, 99, -7), 0);
    check.due("nothing kept on 1", x.pot(1, 0), -11);
    x.row(2, 0, 5);
    check.due("keep in a row's place", x.keep(2, 1, 1, 0), 0);
    check.due("the row is gone", x.put(2, 0, 0), -12);
  }

  private static void row() {
    EggMinute x = new EggMinute();
    for (int sort = 0; sort < 3; sort++) {
      check.due("row of 100", x.row(sort, sort, 100), 0);
      check.due("its last", x.element(sort, 99), 0);
      check.due("no place 100", x.put(sort, 100, 1), -13);
    }
    check.due("row(-1, 0, 1)", x.row(-1, 0, 1), -1);
    check.due("row(8, 0, 1)", x.row(8, 0, 1), -1);
    check.due("row(0, -1, 1)", x.row(0, -1, 1), -1);
    check.due("row(0, 3, 1)", x.row(0, 3, 1), -1);
    check.due("row(0, 0, 101)", x.row(0, 0, 101), -1);
    check.due("row(0, 0, MAX)", x.row(0, 0, Integer.MAX_VALUE), -1);
    check.due("row(0, 0, -1)", x.row(0, 0, -1), -14);
    check.due("row(0, 0, MIN)", x.row(0, 0, Integer.MIN_VALUE), -14);
    check.due("row, -1 ahead of -14", x.row(8, 0, -1), -1);
    check.due("row, -1 for the sort ahead of -14", x.row(0, 3, -1), -1);
    check.due("refused rows change nothing", x.put(0, 99, 7), 0);
    check.due("row of none", x.row(0, 0, 0), 0);
    check.due("it has no place 0", x.put(0, 0, 7), -13);
    x.row(0, 2, 3);
    x.put(0, 1, 9);
    x.row(0, 2, 3);
    check.due("a new row is 0 at first", x.element(0, 1), 0);
    x.keep(1, 1, 1, 1);
    check.due("row in a doing's place", x.row(1, 0, 1), 0);
    check.due("the doing is gone", x.toss(1), -12);
  }

  private static void put() {
    EggMinute x = new EggMinute();
    int[] values = {0, 1, -1, 127, 128, -128, -129, 255, 256, 32767, 32768, -32768, -32769, 65535, 65536, 123456789,
      Integer.MAX_VALUE, Integer.MIN_VALUE};
    for (int v : values) {
      long[] due = {(byte) v, (short) v, v};
      for (int sort = 0; sort < 3; sort++) {
        x.row(4, sort, 2);
        check.due("put(4, 1, " + v + ")", x.put(4, 1, v), 0);
        check.due("sort " + sort + " keeps of " + v, x.element(4, 1), due[sort]);
        check.due("the other place stays", x.element(4, 0), 0);
      }
    }
    check.due("put(-1, 0, 0)", x.put(-1, 0, 0), -1);
    check.due("put(8, 0, 0)", x.put(8, 0, 0), -1);
    check.due("put in nothing", x.put(0, 0, 0), -11);
    check.due("put in nothing, no such place", x.put(0, -1, 0), -11);
    check.due("put(4, -1, 0)", x.put(4, -1, 0), -13);
    check.due("put(4, 2, 0)", x.put(4, 2, 0), -13);
    check.due("put(4, MIN, 0)", x.put(4, Integer.MIN_VALUE, 0), -13);
    check.due("put(4, MAX, 0)", x.put(4, Integer.MAX_VALUE, 0), -13);
    x.keep(5, 1, 0, 0);
    check.due("put in a doing", x.put(5, 0, 0), -12);
    check.due("put in a doing, no such place", x.put(5, -1, 0), -12);
  }

  private static void element() {
    EggMinute x = new EggMinute();
    x.row(0, 2, 2);
    x.put(0, 0, -5);
    check.due("element(0, 0)", x.element(0, 0), -5);
    check.due("element(0, 1) answers", Check.thrownBy(x, 0, 1), 0);
    check.due("element(-1, 0)", Check.thrownBy(x, -1, 0), 1);
    check.due("element(8, 0)", Check.thrownBy(x, 8, 0), 1);
    check.due("element(8, -1)", Check.thrownBy(x, 8, -1), 1);
    check.due("element of nothing", Check.thrownBy(x, 1, 0), 2);
    x.keep(1, 1, 1, 1);
    check.due("element of a doing", Check.thrownBy(x, 1, 0), 2);
    check.due("element(0, -1)", Check.thrownBy(x, 0, -1), 2);
    check.due("element(0, 2)", Check.thrownBy(x, 0, 2), 2);
    check.due("element(0, MAX)", Check.thrownBy(x, 0, Integer.MAX_VALUE), 2);
    check.due("element(0, MIN)", Check.thrownBy(x, 0, Integer.MIN_VALUE), 2);
    x.row(0, 0, 0);
    check.due("element of none", Check.thrownBy(x, 0, 0), 2);
  }

  private static void dueRow(String what, EggMinute x, int d, int... due) {
    for (int i = 0; i < due.length; i++) {
      check.due(what + ", element " + i, x.element(d, i), due[i]);
    }
    check.due(what + ", has no more", Check.thrownBy(x, d, due.length), 2);
  }

  private static void copy() {
    EggMinute x = new EggMinute();
    for (int sort = 0; sort < 3; sort++) {
      Check.numbers(x, 0, sort, 1, 2, 3, 4, 5);
      Check.numbers(x, 1, sort, 11, 12, 13);
      check.due("copy two", x.copy(0, 3, 1, 0, 2), 2);
      dueRow("copied", x, 1, 4, 5, 13);
      dueRow("copied from", x, 0, 1, 2, 3, 4, 5);
      check.due("copy all", x.copy(1, 0, 0, 2, 3), 3);
      dueRow("copied all", x, 0, 1, 2, 4, 5, 13);
    }
    Check.numbers(x, 0, 2, 1, 2, 3, 4, 5);
    check.due("copy within, upward", x.copy(0, 0, 0, 1, 4), 4);
    dueRow("upward", x, 0, 1, 1, 2, 3, 4);
    check.due("copy within, downward", x.copy(0, 1, 0, 0, 4), 4);
    dueRow("downward", x, 0, 1, 2, 3, 4, 4);
    check.due("copy none", x.copy(0, 5, 0, 5, 0), 0);
    x.row(1, 2, 0);
    check.due("copy none of none", x.copy(1, 0, 0, 5, 0), 0);
    dueRow("still", x, 0, 1, 2, 3, 4, 4);
  }

  private static void copyRefusals() {
    EggMinute x = new EggMinute();
    Check.numbers(x, 0, 2, 1, 2, 3, 4, 5);
    Check.numbers(x, 1, 2, 6, 7, 8);
    x.row(2, 1, 5);
    x.keep(3, 1, 1, 1);
    int[][] wrong = {{-1, 0, 1, 0, 1}, {8, 0, 1, 0, 1}, {0, 0, -1, 0, 1}, {0, 0, 8, 0, 1}, {4, 0, 8, 0, 1},
      {4, 0, 1, 0, 1}, {0, 0, 4, 0, 1}, {3, 0, 4, 0, 1}, {4, 0, 3, 0, 1}, {4, 0, 4, 0, 1},
      {3, 0, 1, 0, 1}, {0, 0, 3, 0, 1}, {3, 0, 3, 0, 1}, {0, 0, 2, 0, 1}, {2, 0, 0, 0, 1}, {0, -1, 2, 0, 1},
      {0, -1, 1, 0, 1}, {0, 0, 1, -1, 1}, {0, 0, 1, 0, -1}, {0, 0, 1, 0, 4}, {0, 3, 1, 0, 3}, {0, 0, 1, 1, 3},
      {0, 5, 1, 0, 1}, {0, 0, 1, 3, 1}, {0, 6, 1, 0, 0}, {0, 0, 1, 4, 0},
      {0, Integer.MAX_VALUE, 1, 0, 2}, {0, 1, 1, 0, Integer.MAX_VALUE}, {0, 0, 1, Integer.MAX_VALUE, 2},
      {0, Integer.MIN_VALUE, 1, 0, 2}, {0, 1, 1, 1, Integer.MIN_VALUE}};
    int[] due = {-1, -1, -1, -1, -1,
      -11, -11, -11, -11, -11,
      -12, -12, -12, -12, -12, -12,
      -13, -13, -13, -13, -13, -13,
      -13, -13, -13, -13,
      -13, -13, -13,
      -13, -13};
    for (int i = 0; i < wrong.length; i++) {
      int[] w = wrong[i];
      check.due("copy" + java.util.Arrays.toString(w), x.copy(w[0], w[1], w[2], w[3], w[4]), due[i]);
    }
    dueRow("refused copies change nothing", x, 0, 1, 2, 3, 4, 5);
    dueRow("refused copies change nothing", x, 1, 6, 7, 8);
  }

  private static void weight() {
    for (int figure = 0; figure <= 60; figure++) {
      EggMinute x = new EggMinute();
      int[] due = {3, 13, 13 + figure, 3 * figure, 26, 13 - figure, 39, 6 + figure};
      for (int kind = 0; kind < 8; kind++) {
        x.keep(kind, 1, kind, figure);
        check.due("weight of kind " + kind + ", figure " + figure, x.weight(kind), due[kind]);
      }
    }
    EggMinute x = new EggMinute();
    check.due("weight(-1)", x.weight(-1), -1000000001);
    check.due("weight(8)", x.weight(8), -1000000001);
    x.keep(0, 0, 0, 0);
    check.due("weight of nothing", x.weight(0), -1000000011);
    x.row(0, 0, 4);
    check.due("weight of a row", x.weight(0), -1000000012);
  }

  private static void toss() {
    for (int figure = 0; figure <= 60; figure++) {
      EggMinute x = new EggMinute();
      int[] due = {figure, figure, figure, -15, 100 + figure, figure, figure, 206 + figure};
      for (int kind = 0; kind < 8; kind++) {
        x.keep(kind, 1, kind, figure);
        check.due("toss of kind " + kind + ", figure " + figure, x.toss(kind), figure == 0 ? -15 : due[kind]);
      }
    }
    EggMinute x = new EggMinute();
    x.keep(7, 1, 7, 60);
    check.due("toss of a HIGH one", x.toss(7), 266);
    check.due("toss leaves the doing", x.weight(7), 66);
    check.due("toss(-1)", x.toss(-1), -1);
    check.due("toss(8)", x.toss(8), -1);
    x.keep(0, 0, 0, 0);
    check.due("toss of nothing", x.toss(0), -11);
    x.row(0, 0, 4);
    check.due("toss of a row", x.toss(0), -12);
  }
}
