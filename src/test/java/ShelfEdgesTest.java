/** Promises 25 to 31, sentence by sentence: the edges and the refusals of each. */
public final class ShelfEdgesTest {
  private static final Check check = new Check("ShelfEdgesTest");

  public static void main(String[] args) {
    keepShelf();
    keepWhat();
    keepKinds();
    keepFigures();
    keepOver();
    rowShelf();
    rowSorts();
    rowSizes();
    rowRefusals();
    rowOver();
    putShelf();
    putPlaces();
    putRefusals();
    putLowestBits();
    elementThrows();
    copyShelves();
    copyRefusals();
    copyPlaces();
    copyFar();
    copyWithin();
    weightRefusals();
    weights();
    tossRefusals();
    tosses();
    check.end();
  }

  private static Script script(String sentence) {
    return new Script(check, sentence);
  }

  private static void keepShelf() {
    for (int d = 0; d < 8; d++) {
      Script s = script("25: SHELF d gets").due("keep(" + d + ", 1, 2, 5) = 0");
      for (int e = 0; e < 8; e++) {
        s.due("weight(" + e + ") = " + (e == d ? 18 : -1000000011));
      }
      s.outside("keep(%, 1, 1, 1)", 0, 7, "-1").outside("keep(%, 0, 0, 0)", 0, 7, "-1").end();
    }
  }

  private static void keepWhat() {
    script("25: what = 0, 1").due("keep(1, 1, 2, 5) = 0").outside("keep(1, %, 1, 1)", 0, 1, "-1").outside("keep(2, %, 1, 1)", 0,
        1, "-1").due("weight(1) = 18", "keep(1, 0, 0, 0) = 0", "weight(1) = -1000000011", "keep(1, 0, 0, 0) = 0",
        "weight(1) = -1000000011", "keep(2, 1, 1, 1) = 0", "keep(2, 0, 8, 61) = 0", "weight(2) = -1000000011").end();
  }

  private static void keepKinds() {
    int[] weights = {3, 13, 23, 30, 26, 3, 39, 16};
    Script s = script("25: a DOING of KIND k").due("keep(2, 1, 2, 5) = 0").outside("keep(1, 1, %, 0)", 0, 7, "-1")
        .outside("keep(2, 1, %, 0)", 0, 7, "-1").due("weight(2) = 18");
    for (int kind = 0; kind < 8; kind++) {
      s.due("keep(1, 1, " + kind + ", 10) = 0", "weight(1) = " + weights[kind]);
    }
    s.end();
  }

  private static void keepFigures() {
    Script s = script("25: with a FIGURE (0 .. 60)").due("keep(2, 1, 2, 5) = 0");
    for (int kind = 0; kind < 8; kind++) {
      s.outside("keep(2, 1, " + kind + ", %)", 0, 60, "-1").due("keep(1, 1, " + kind + ", 0) = 0",
          "keep(1, 1, " + kind + ", 60) = 0");
    }
    s.due("weight(1) = 66", "weight(2) = 18", "keep(8, 2, 8, 61) = -1", "keep(8, 0, 8, 61) = -1").end();
  }

  private static void keepOver() {
    script("25: in the place of what was held").numbers(1, 1, 5, 6).due("keep(1, 1, 1, 0) = 0", "put(1, 0, 0) = -12",
        "pot(1, 0) = 1000", "keep(1, 1, 3, 0) = 0", "pot(1, 0) = 600").numbers(1, 1, 5, 6).due("keep(1, 0, 0, 0) = 0",
        "put(1, 0, 0) = -11", "go(1, 1) = -11").end();
  }

  private static void rowShelf() {
    for (int d = 0; d < 8; d++) {
      Script s = script("26: SHELF d gets").due("row(" + d + ", 2, 2) = 0");
      for (int e = 0; e < 8; e++) {
        s.due("element(" + e + ", 1) = " + (e == d ? "0" : "throws.IllegalStateException"));
      }
      s.outside("row(%, 0, 1)", 0, 7, "-1").outside("row(%, 2, 0)", 0, 7, "-1").end();
    }
  }

  private static void rowSorts() {
    script("26: a ROW of a SORT").due("row(1, 0, 1) = 0", "put(1, 0, 70000) = 0", "element(1, 0) = 112", "row(1, 1, 1) = 0",
        "put(1, 0, 70000) = 0", "element(1, 0) = 4464", "row(1, 2, 1) = 0", "put(1, 0, 70000) = 0", "element(1, 0) = 70000")
        .outside("row(1, %, 1)", 0, 2, "-1").outside("row(2, %, 1)", 0, 2, "-1").due("element(1, 0) = 70000").end();
  }

  private static void rowSizes() {
    for (int sort = 0; sort < 3; sort++) {
      String row = "row(1, " + sort + ", ";
      script("26: 0 .. 100 elements, 0 at first, sort " + sort).due(row + "0) = 0",
          "element(1, 0) = throws.IllegalStateException", row + "1) = 0", "element(1, 0) = 0",
          "element(1, 1) = throws.IllegalStateException", row + "100) = 0", "element(1, 0) = 0", "element(1, 50) = 0",
          "element(1, 99) = 0", "element(1, 100) = throws.IllegalStateException", "put(1, 99, 7) = 0", row + "101) = -1",
          row + "MAX) = -1", row + "-1) = -14", row + "MIN) = -14", "element(1, 99) = 7", row + "100) = 0",
          "element(1, 99) = 0").end();
    }
  }

  private static void rowRefusals() {
    script("26: -1 (n above 100); -14").due("row(-1, 0, -1) = -1", "row(8, 0, MIN) = -1", "row(1, 3, -1) = -1",
        "row(1, -1, MIN) = -1", "row(8, 3, 101) = -1", "row(1, 3, 101) = -1", "row(1, 0, -1) = -14", "row(1, 2, MIN) = -14",
        "put(1, 0, 0) = -11").end();
  }

  private static void rowOver() {
    script("26: in the place of what was held").due("keep(1, 1, 1, 5) = 0", "row(1, 0, -1) = -14", "row(1, 0, 101) = -1",
        "weight(1) = 13", "row(1, 0, 3) = 0", "weight(1) = -1000000012", "row(1, 1, 2) = 0",
        "element(1, 2) = throws.IllegalStateException").end();
  }

  private static void putShelf() {
    for (int d = 0; d < 8; d++) {
      script("27: of the ROW in SHELF d").due("put(" + d + ", 0, 1) = -11", "row(" + d + ", 2, 1) = 0",
          "put(" + d + ", 0, 9) = 0", "element(" + d + ", 0) = 9").outside("put(%, 0, 1)", 0, 7, "-1").end();
    }
  }

  private static void putPlaces() {
    for (int sort = 0; sort < 3; sort++) {
      for (int n : new int[] {0, 1, 2, 100}) {
        Script s = script("27: element i, of " + n).due("row(1, " + sort + ", " + n + ") = 0")
            .outside("put(1, %, 5)", 0, n - 1, "-13");
        if (n > 0) {
          s.due("put(1, 0, 7) = 0", "element(1, 0) = 7", "put(1, " + (n - 1) + ", 8) = 0", "element(1, " + (n - 1) + ") = 8");
        }
        s.end();
      }
    }
  }

  private static void putRefusals() {
    script("27: -1, -11, -12, -13").due("put(8, -1, 0) = -1", "put(-1, 0, MAX) = -1", "put(1, -1, 0) = -11",
        "put(1, 0, 0) = -11", "put(1, MAX, 0) = -11", "keep(1, 1, 1, 1) = 0", "put(1, 0, 0) = -12", "put(1, -1, 0) = -12",
        "put(1, MIN, 0) = -12", "row(1, 0, 0) = 0", "put(1, 0, 0) = -13").end();
  }

  private static void putLowestBits() {
    int[] values = {0, 1, -1, 127, 128, 129, -127, -128, -129, 255, 256, -256, 32767, 32768, -32767, -32768, -32769, 65535,
      65536, 8388608, Integer.MAX_VALUE, Integer.MIN_VALUE, Integer.MIN_VALUE + 1};
    for (int sort = 0; sort < 3; sort++) {
      Script s = script("27: what is put in keeps its lowest bits, sort " + sort).due("row(1, " + sort + ", 3) = 0");
      for (int v : values) {
        int kept = sort == 0 ? (byte) v : sort == 1 ? (short) v : v;
        s.due("put(1, 1, " + v + ") = 0", "element(1, 1) = " + kept, "element(1, 0) = 0", "element(1, 2) = 0");
      }
      s.end();
    }
  }

  private static void elementThrows() {
    String argument = "throws.IllegalArgumentException";
    String state = "throws.IllegalStateException";
    script("28: no such SHELF; no ROW, no such place").numbers(0, 2, 5, 6).numbers(7, 2, -7).due("element(0, 0) = 5",
        "element(0, 1) = 6", "element(7, 0) = -7").outside("element(%, 0)", 0, 7, argument)
        .outside("element(%, -1)", 0, 7, argument).outside("element(0, %)", 0, 1, state).outside("element(7, %)", 0, 0, state)
        .due("element(3, 0) = " + state, "element(3, -1) = " + state, "keep(3, 1, 1, 1) = 0", "element(3, 0) = " + state,
        "element(3, MAX) = " + state, "row(3, 1, 0) = 0", "element(3, 0) = " + state, "row(3, 2, 1) = 0",
        "put(3, 0, MIN) = 0", "element(3, 0) = -2147483648", "put(3, 0, MAX) = 0", "element(3, 0) = 2147483647").end();
  }

  private static void copyShelves() {
    script("29: of the ROW in SHELF d to that in SHELF e").numbers(0, 1, 1, 2, 3).numbers(7, 1, 7, 8, 9).due(
        "copy(0, 1, 7, 0, 2) = 2", "element(7, 0) = 2", "element(7, 1) = 3", "element(7, 2) = 9", "element(0, 1) = 2",
        "copy(7, 2, 0, 0, 1) = 1", "element(0, 0) = 9", "element(0, 1) = 2").outside("copy(%, 0, 7, 0, 1)", 0, 7, "-1")
        .outside("copy(0, 0, %, 0, 1)", 0, 7, "-1").outside("copy(%, 0, 7, 0, 0)", 0, 7, "-1").end();
  }

  private static void copyRefusals() {
    Script s = script("29: -1, -11 (either), -12 (no ROWS of one SORT), -13").numbers(0, 0, 1, 2).numbers(1, 1, 3, 4)
        .numbers(2, 2, 5, 6).due("keep(3, 1, 1, 1) = 0");
    for (int d = 0; d < 5; d++) {
      for (int e = 0; e < 5; e++) {
        String due = d == 4 || e == 4 ? "-11" : d == 3 || e == 3 || d != e ? "-12" : "-13";
        s.due("copy(" + d + ", 0, " + e + ", 0, 3) = " + due, "copy(" + d + ", -1, " + e + ", 0, -1) = " + due);
      }
    }
    s.due("copy(8, 0, 4, 0, 1) = -1", "copy(4, 0, 8, 0, 1) = -1", "copy(3, 0, 8, 0, 1) = -1", "copy(0, -1, 8, 0, 1) = -1",
        "copy(0, 0, 1, 0, 0) = -12", "copy(4, 0, 4, 0, 0) = -11", "copy(3, 0, 3, 0, 0) = -12").end();
  }

  private static void copyPlaces() {
    for (int i = -1; i <= 4; i++) {
      Script s = script("29: -13, by every i, j and n near the edges").numbers(0, 2, 1, 2, 3).numbers(1, 2, 7, 8);
      for (int j = -1; j <= 3; j++) {
        for (int n = -1; n <= 4; n++) {
          boolean fits = n >= 0 && i >= 0 && j >= 0 && i + n <= 3 && j + n <= 2;
          if (!fits) {
            s.due("copy(0, " + i + ", 1, " + j + ", " + n + ") = -13");
          }
        }
      }
      s.end();
    }
    script("29: n elements, the least and the most").numbers(0, 2, 1, 2, 3).numbers(1, 2, 7, 8).due("copy(0, 0, 1, 0, 0) = 0",
        "copy(0, 3, 1, 2, 0) = 0", "element(1, 0) = 7", "element(1, 1) = 8", "copy(0, 2, 1, 1, 1) = 1", "element(1, 0) = 7",
        "element(1, 1) = 3", "copy(0, 0, 1, 0, 2) = 2", "element(1, 0) = 1", "element(1, 1) = 2", "copy(0, 1, 1, 0, 2) = 2",
        "element(1, 0) = 2", "element(1, 1) = 3", "row(1, 2, 0) = 0", "copy(1, 0, 0, 3, 0) = 0", "copy(0, 0, 1, 0, 1) = -13",
        "copy(1, 0, 1, 0, 0) = 0", "copy(1, 1, 1, 0, 0) = -13", "copy(1, 0, 1, 1, 0) = -13").end();
    int[] hundred = new int[100];
    for (int i = 0; i < 100; i++) {
      hundred[i] = i - 50;
    }
    script("29: a hundred").numbers(0, 0, hundred).due("row(1, 0, 100) = 0", "copy(0, 0, 1, 0, 100) = 100",
        "element(1, 0) = -50", "element(1, 99) = 49", "copy(0, 0, 1, 0, 101) = -13", "copy(0, 1, 1, 0, 100) = -13",
        "copy(0, 0, 1, 1, 100) = -13", "copy(0, 0, 1, 99, 1) = 1", "element(1, 99) = -50").end();
  }

  private static void copyFar() {
    Script s = script("29: -13, far away").numbers(0, 2, 1, 2, 3).numbers(1, 2, 7, 8);
    for (String far : new String[] {"MIN", "MAX"}) {
      for (int n = 0; n <= 2; n++) {
        s.due("copy(0, " + far + ", 1, 0, " + n + ") = -13", "copy(0, 0, 1, " + far + ", " + n + ") = -13");
      }
      s.due("copy(0, 0, 1, 0, " + far + ") = -13", "copy(0, " + far + ", 1, 0, " + far + ") = -13",
          "copy(0, 1, 1, 1, " + far + ") = -13", "copy(0, " + far + ", 1, " + far + ", " + far + ") = -13",
          "copy(0, MIN, 1, 0, MAX) = -13", "copy(0, MAX, 1, 0, MIN) = -13");
    }
    s.end();
  }

  private static void copyWithin() {
    script("29: within one ROW").numbers(0, 1, 1, 2, 3, 4, 5).due("copy(0, 0, 0, 1, 4) = 4", "element(0, 0) = 1",
        "element(0, 1) = 1", "element(0, 2) = 2", "element(0, 3) = 3", "element(0, 4) = 4", "copy(0, 2, 0, 0, 3) = 3",
        "element(0, 0) = 2", "element(0, 1) = 3", "element(0, 2) = 4", "element(0, 3) = 3", "element(0, 4) = 4",
        "copy(0, 0, 0, 0, 5) = 5", "element(0, 2) = 4", "copy(0, 0, 0, 1, 5) = -13").end();
  }

  private static void weightRefusals() {
    for (int d = 0; d < 8; d++) {
      script("30: 1000000000 less").due("weight(" + d + ") = -1000000011", "row(" + d + ", 0, 1) = 0",
          "weight(" + d + ") = -1000000012", "row(" + d + ", 1, 0) = 0", "weight(" + d + ") = -1000000012",
          "row(" + d + ", 2, 9) = 0", "weight(" + d + ") = -1000000012", "keep(" + d + ", 1, 0, 0) = 0",
          "weight(" + d + ") = 3", "keep(" + d + ", 0, 0, 0) = 0", "weight(" + d + ") = -1000000011")
          .outside("weight(%)", 0, 7, "-1000000001").end();
    }
  }

  private static void weights() {
    int[][] due = {{3, 3, 3}, {13, 13, 13}, {13, 14, 73}, {0, 3, 180}, {26, 26, 26}, {13, 12, -47}, {39, 39, 39},
      {6, 7, 66}};
    int[] figures = {0, 1, 60};
    for (int kind = 0; kind < 8; kind++) {
      Script s = script("30: WEIGHT of kind " + kind);
      for (int i = 0; i < 3; i++) {
        s.due("keep(1, 1, " + kind + ", " + figures[i] + ") = 0", "weight(1) = " + due[kind][i]);
      }
      s.end();
    }
    script("30: it may be below 0").due("keep(1, 1, 5, 13) = 0", "weight(1) = 0", "keep(1, 1, 5, 14) = 0", "weight(1) = -1")
        .end();
  }

  private static void tossRefusals() {
    for (int d = 0; d < 8; d++) {
      script("31: -1, -11, -12 (a ROW)").due("toss(" + d + ") = -11", "row(" + d + ", 0, 1) = 0", "toss(" + d + ") = -12",
          "row(" + d + ", 1, 0) = 0", "toss(" + d + ") = -12", "row(" + d + ", 2, 9) = 0", "toss(" + d + ") = -12",
          "keep(" + d + ", 1, 0, 7) = 0", "toss(" + d + ") = 7", "keep(" + d + ", 0, 0, 0) = 0", "toss(" + d + ") = -11")
          .outside("toss(%)", 0, 7, "-1").end();
    }
  }

  private static void tosses() {
    int[][] due = {{-15, 1, 60}, {-15, 1, 60}, {-15, 1, 60}, {-15, -15, -15}, {-15, 101, 160}, {-15, 1, 60}, {-15, 1, 60},
      {-15, 207, 266}};
    int[] figures = {0, 1, 60};
    for (int kind = 0; kind < 8; kind++) {
      Script s = script("31: the FAILURE of kind " + kind);
      for (int i = 0; i < 3; i++) {
        s.due("keep(1, 1, " + kind + ", " + figures[i] + ") = 0", "toss(1) = " + due[kind][i], "toss(1) = " + due[kind][i]);
      }
      s.end();
    }
  }
}
