/** Promises 13 to 21, sentence by sentence: the edges and the refusals of each. */
public final class HowMuchEdgesTest {
  private static final Check check = new Check("HowMuchEdgesTest");

  public static void main(String[] args) {
    bearsShelf();
    bearsRanges();
    bearsRefusals();
    bearsKinds();
    bearsFirstOfSeveral();
    bearsByBoxes();
    bearsByJustTheseBoxes();
    offShelf();
    offRanges();
    offRefusals();
    offBySigns();
    offWithTwelve();
    sizeShelf();
    sizeRanges();
    sizeRefusals();
    sizeFirst();
    sizeUpTo600();
    tableShelf();
    tableRanges();
    tableRefusals();
    tablePlaces();
    cracksRefusals();
    cracksEdges();
    peelsRefusals();
    peelsEdges();
    spinEdges();
    toldRanges();
    toldEdges();
    toldByShells();
    judgeShells();
    judgeShelves();
    judgeRefusals();
    judgeReadings();
    judgeSkips();
    judgeLongest();
    inMindAnew();
    check.end();
  }

  private static Script script(String sentence) {
    return new Script(check, sentence);
  }

  /** Two SHELLS, yolk 0, 22, 56 and white 150, 255, 332 behind SECONDS 1, 2, 3 of a BOILED. */
  private static Script small(String sentence) {
    return script(sentence).text(7, "n2;y1;b0;p10;").due("egg(7) = 4", "keep(7, 0, 0, 0) = 0", "keep(1, 1, 1, 0) = 0");
  }

  private static PlainEgg plain(int shells, int y, int box, int pass) {
    PlainEgg egg = new PlainEgg();
    egg.shells = shells;
    egg.y = y;
    egg.box = box;
    egg.pass = pass;
    egg.fresh();
    return egg;
  }

  private static void bearsShelf() {
    for (int d = 0; d < 8; d++) {
      script("13: the ROW of bytes in SHELF d").due("bears(" + d + ", 0, 5) = -11").numbers(d, 0, 1)
          .due("bears(" + d + ", 0, 5) = 0").outside("bears(%, 0, 5)", 0, 7, "-1").end();
    }
  }

  private static void bearsRanges() {
    script("13: a FIGURE, so many SECONDS").numbers(2, 0, 5, 1).outside("bears(2, %, 5)", 0, 60, "-1")
        .outside("bears(2, 0, %)", 1, 600, "-1").due("bears(2, 0, 1) = 0", "bears(2, 60, 1) = 0", "bears(2, 0, 600) = 1")
        .end();
  }

  private static void bearsRefusals() {
    script("13: -1, -11, -12 (no ROW of bytes), -13").due("bears(2, 0, 5) = -11", "bears(2, 61, 5) = -1",
        "bears(2, 0, 0) = -1", "keep(2, 1, 1, 0) = 0", "bears(2, 0, 5) = -12", "bears(2, -1, 5) = -1",
        "bears(2, 0, 601) = -1").numbers(2, 1, 1, 2).due("bears(2, 0, 5) = -12").numbers(2, 2, 1, 2)
        .due("bears(2, 0, 5) = -12").numbers(2, 1).due("bears(2, 0, 5) = -12").numbers(2, 2, 8).due("bears(2, 0, 5) = -12")
        .numbers(2, 0).due("bears(2, 0, 5) = -13", "bears(2, 61, 5) = -1", "bears(2, 0, 0) = -1", "bears(8, 0, 5) = -1")
        .numbers(2, 0, 8).due("bears(2, 0, 5) = -13", "bears(2, -1, 5) = -1", "bears(2, 0, 601) = -1").end();
  }

  private static void bearsKinds() {
    for (int kind = -128; kind < 128; kind++) {
      EggMinute x = new EggMinute();
      Check.numbers(x, 2, 0, kind);
      boolean isKind = kind >= 0 && kind <= 7;
      check.due("13: one that is no KIND: " + kind, x.bears(2, 30, 3), isKind ? 0 : -13);
      Check.numbers(x, 2, 0, 1, 1, kind);
      check.due("13: one that is no KIND, at the end: " + kind, x.bears(2, 30, 3), isKind ? 0 : -13);
    }
    script("13: a byte keeps its lowest bits").numbers(2, 0, 256, 263).due("bears(2, 0, 5) = 0").numbers(2, 0, 264)
        .due("bears(2, 0, 5) = -13").end();
  }

  private static void bearsFirstOfSeveral() {
    // behind 1 SECOND nothing has come to the middle of six
    script("13: of several the first").numbers(2, 0, 7, 6, 5, 4, 3, 2, 1, 0).due("bears(2, 0, 1) = 0", "bears(2, 60, 1) = 0")
        .numbers(2, 0, 5, 1, 7, 1).due("bears(2, 0, 600) = 1").numbers(2, 0, 5, 5, 5).due("bears(2, 0, 600) = 0").end();
    int[] hundred = new int[100];
    java.util.Arrays.fill(hundred, 5);
    hundred[99] = 1;
    script("13: a hundred of them").numbers(2, 0, hundred).due("bears(2, 0, 600) = 99", "put(2, 98, 1) = 0",
        "bears(2, 0, 600) = 98", "put(2, 0, 1) = 0", "bears(2, 0, 600) = 0", "put(2, 99, 8) = 0", "bears(2, 0, 600) = -13")
        .end();
  }

  private static void bearsByBoxes() {
    int[] kinds = {0, 1, 2, 3, 4, 5, 6, 7};
    int[] backwards = {7, 6, 5, 4, 3, 2, 1, 0};
    for (int box : new int[] {0, 300}) {
      for (int figure : new int[] {0, 1, 59, 60}) {
        for (int n : new int[] {1, 2, 40, 41, 100, 200, 599, 600}) {
          EggMinute x = Check.eggOf("n3;b" + box + ";p15;");
          Check.numbers(x, 2, 0, kinds);
          Check.numbers(x, 3, 0, backwards);
          String what = "13: between BOX 40 and BOX 200, figure " + figure + ", " + n;
          check.due(what, x.bears(2, figure, n), plain(3, 3, 7, 15).bears(kinds, figure, n));
          check.due(what + ", backwards", x.bears(3, figure, n), plain(3, 3, 7, 15).bears(backwards, figure, n));
          check.due("13: BOX stays", x.count(2), box);
        }
      }
    }
  }

  /** Eggs for which a BOX one less or one more on either side would be answered otherwise. */
  private static void bearsByJustTheseBoxes() {
    String[] texts = {"n4;y4;p15;", "n4;y5;p7;", "n6;y6;p22;", "n5;y4;p10;", "n2;y2;p3;"};
    int[][] kinds = {{4, 3}, {3, 6}, {6, 4}, {5, 7}, {7, 5}};
    int[] figures = {44, 41, 17, 19, 12};
    int[] seconds = {55, 169, 132, 181, 73};
    int[] due = {0, 1, 1, 0, 0};
    for (int i = 0; i < texts.length; i++) {
      script("13: BOX 40 and BOX 200, no other").text(7, texts[i]).due("egg(7) = 3").numbers(2, 0, kinds[i]).due(
          "bears(2, " + figures[i] + ", " + seconds[i] + ") = " + due[i], "set(2, 300) = 50",
          "bears(2, " + figures[i] + ", " + seconds[i] + ") = " + due[i]).end();
    }
  }

  private static void offShelf() {
    for (int d = 0; d < 8; d++) {
      script("14: the DOING in SHELF d").due("off(" + d + ", 1) = -1000000011", "keep(" + d + ", 1, 1, 0) = 0",
          "off(" + d + ", 1) = 0").outside("off(%, 1)", 0, 7, "-1000000001").end();
    }
  }

  private static void offRanges() {
    small("14: n SECONDS (1 .. 600)").outside("off(1, %)", 1, 600, "-1000000001").due("off(1, 1) = 0", "off(1, 2) = -22",
        "off(1, 600) = " + plain(2, 1, 0, 10).off(1, 0, 600)).end();
  }

  private static void offRefusals() {
    script("14: 1000000000 less").due("off(1, 0) = -1000000001", "off(1, 5) = -1000000011", "row(1, 0, 1) = 0",
        "off(1, 5) = -1000000012", "off(1, 601) = -1000000001", "row(1, 1, 0) = 0", "off(1, 5) = -1000000012",
        "row(1, 2, 4) = 0", "off(1, 5) = -1000000012", "off(8, 5) = -1000000001", "keep(1, 0, 0, 0) = 0",
        "off(1, 5) = -1000000011").end();
  }

  private static void offBySigns() {
    // three SHELLS: the middle is as at first behind 2 SECONDS; two: it has got 22, or lost 6
    small("14: with one SHELL more, less that with as many as there are").due("off(1, 2) = -22", "keep(1, 1, 5, 0) = 0",
        "set(2, 300) = 0", "off(1, 2) = 6", "off(1, 1) = 0", "go(1, 77) = 77", "off(1, 2) = 6", "count(0) = 2").end();
  }

  private static void offWithTwelve() {
    for (int n = 2; n <= 12; n++) {
      EggMinute x = Check.eggOf("n" + n + ";b0;p30;");
      x.keep(1, 1, 1, 0);
      int more = n == 12 ? 12 : n + 1;
      int due = plain(6, 3, 0, 30).table(1, 0, more, 60) - plain(6, 3, 0, 30).table(1, 0, more - 1, 60);
      check.due("14: off with " + n, x.off(1, 60), due);
      check.dueTrue("14: they differ, with " + n, due < 0);
      check.due("14: SHELLS stay " + n, x.count(0), n);
    }
  }

  private static void sizeShelf() {
    for (int d = 0; d < 8; d++) {
      script("15: the DOING in SHELF d").due("size(" + d + ", 2, 0) = -11", "keep(" + d + ", 1, 1, 0) = 0",
          "size(" + d + ", 2, 0) = 1").outside("size(%, 2, 0)", 0, 7, "-1").end();
    }
  }

  private static void sizeRanges() {
    small("15: n SHELLS (2 .. 12), a WARMTH (0 .. 1200)").outside("size(1, %, 5)", 2, 12, "-1").outside("size(1, 2, %)", 0,
        1200, "-1").due("size(1, 2, 0) = 1", "size(1, 12, 0) = 1", "size(1, 2, 1200) = -4", "size(1, 12, 1200) = -4",
        "count(0) = 2").end();
  }

  private static void sizeRefusals() {
    script("15: -1, -11, -12").due("size(1, 2, 5) = -11", "size(1, 1, 5) = -1", "size(1, 2, -1) = -1", "row(1, 0, 1) = 0",
        "size(1, 2, 5) = -12", "size(1, 13, 5) = -1", "size(1, 2, 1201) = -1", "row(1, 1, 0) = 0", "size(1, 2, 5) = -12",
        "row(1, 2, 4) = 0", "size(1, 2, 5) = -12", "size(8, 2, 5) = -1", "keep(1, 0, 0, 0) = 0", "size(1, 2, 5) = -11")
        .end();
  }

  private static void sizeFirst() {
    small("15: at told WARMTH or more first").due("size(1, 2, 0) = 1", "size(1, 2, 1) = 2", "size(1, 2, 22) = 2",
        "size(1, 2, 23) = 3", "size(1, 2, 56) = 3", "size(1, 2, 57) = 4", "set(0, 12) = 2", "size(1, 2, 22) = 2",
        "go(1, 300) = 300", "size(1, 2, 22) = 2", "set(2, 300) = 0", "size(1, 12, 300) = 1", "keep(1, 1, 5, 0) = 0",
        "size(1, 2, 300) = 1", "size(1, 2, 301) = -4", "set(2, 0) = 300", "size(1, 2, 300) = -4").end();
    int warmest = 0;
    PlainEgg egg = plain(2, 1, 0, 10);
    for (int s = 1; s <= 600; s++) {
      egg.second(5, 1);
      warmest = Math.max(warmest, egg.warmth[0]);
    }
    int when = plain(2, 1, 0, 10).size(5, 1, 2, warmest);
    small("15: it was there, though it cools again").due("keep(1, 1, 5, 1) = 0", "size(1, 2, " + warmest + ") = " + when,
        "size(1, 2, " + (warmest + 1) + ") = -4").end();
  }

  private static void sizeUpTo600() {
    PlainEgg egg = plain(2, 1, 0, 10);
    egg.seconds(2, 0, 599);
    int before = egg.warmth[0];
    egg.second(2, 0);
    int at600 = egg.warmth[0];
    check.dueTrue("15: still warming at 600", at600 > before);
    small("15: up to 600 SECONDS").due("keep(1, 1, 2, 0) = 0", "size(1, 2, " + at600 + ") = 600",
        "size(1, 2, " + (at600 + 1) + ") = -4").end();
  }

  private static void tableShelf() {
    for (int d = 0; d < 8; d++) {
      script("16: the DOING in SHELF d").due("table(" + d + ", 2, 1) = -11", "keep(" + d + ", 1, 1, 0) = 0",
          "table(" + d + ", 2, 1) = 50").outside("table(%, 2, 1)", 0, 7, "-1").end();
    }
  }

  private static void tableRanges() {
    small("16: n SHELLS, t SECONDS (1 .. 600)").outside("table(1, %, 5)", 2, 12, "-1").outside("table(1, 2, %)", 1, 600,
        "-1").due("table(1, 2, 1) = 0", "table(1, 12, 1) = 0", "table(1, 2, 600) = " + plain(2, 1, 0, 10).table(1, 0, 2, 600),
        "table(1, 12, 600) = " + plain(2, 1, 0, 10).table(1, 0, 12, 600)).end();
  }

  private static void tableRefusals() {
    script("16: -1, -11, -12").due("table(1, 2, 5) = -11", "table(1, 1, 5) = -1", "table(1, 2, 0) = -1", "row(1, 0, 1) = 0",
        "table(1, 2, 5) = -12", "table(1, 13, 5) = -1", "table(1, 2, 601) = -1", "row(1, 1, 0) = 0", "table(1, 2, 5) = -12",
        "row(1, 2, 4) = 0", "table(1, 2, 5) = -12", "table(8, 2, 5) = -1", "keep(1, 0, 0, 0) = 0", "table(1, 2, 5) = -11")
        .end();
  }

  private static void tablePlaces() {
    small("16: the middle's WARMTH with n SHELLS behind t SECONDS").due("table(1, 2, 1) = 0", "table(1, 2, 2) = 22",
        "table(1, 2, 3) = 56", "table(1, 3, 2) = 0", "set(0, 12) = 2", "table(1, 2, 3) = 56", "go(1, 600) = 600",
        "table(1, 2, 3) = 56", "keep(1, 1, 5, 0) = 0", "set(2, 300) = 0", "table(1, 2, 1) = 300", "table(1, 2, 2) = 294")
        .end();
  }

  private static void cracksRefusals() {
    for (int d = 0; d < 8; d++) {
      script("17: -1, -11, -12").due("cracks(" + d + ") = -11", "row(" + d + ", 0, 1) = 0", "cracks(" + d + ") = -12",
          "row(" + d + ", 2, 0) = 0", "cracks(" + d + ") = -12", "keep(" + d + ", 1, 1, 0) = 0", "cracks(" + d + ") = 1",
          "keep(" + d + ", 0, 0, 0) = 0", "cracks(" + d + ") = -11").outside("cracks(%)", 0, 7, "-1").end();
    }
  }

  private static void cracksEdges() {
    script("17: warmer than BOX by more than 900 less 20 AIR").due("keep(1, 1, 1, 0) = 0", "set(5, 0) = 3", "set(2, 100) = 50",
        "cracks(1) = 0", "set(2, 99) = 100", "cracks(1) = 1", "set(5, 1) = 0", "cracks(1) = 1", "set(2, 119) = 99",
        "cracks(1) = 1", "set(2, 120) = 119", "cracks(1) = 0", "set(5, 20) = 1", "set(2, 300) = 120", "cracks(1) = 1",
        "set(5, 10) = 20", "cracks(1) = 0", "set(2, 299) = 300", "cracks(1) = 1").end();
    script("17: the POT at SECOND 0").due("set(5, 20) = 3", "set(2, 0) = 50", "keep(1, 1, 0, 0) = 0", "cracks(1) = 0",
        "keep(1, 1, 2, 60) = 0", "cracks(1) = 0", "keep(1, 1, 3, 0) = 0", "cracks(1) = 1", "keep(1, 1, 4, 0) = 0",
        "cracks(1) = 1", "keep(1, 1, 5, 0) = 0", "cracks(1) = 0", "keep(1, 1, 5, 1) = 0", "cracks(1) = 1",
        "keep(1, 1, 6, 60) = 0", "cracks(1) = 1", "set(2, 200) = 0", "cracks(1) = 0", "set(2, 199) = 200",
        "cracks(1) = 1", "keep(1, 1, 7, 60) = 0", "cracks(1) = 1", "set(2, 260) = 199", "cracks(1) = 0",
        "set(2, 259) = 260", "cracks(1) = 1", "go(1, 600) = 600", "cracks(1) = 1", "keep(1, 1, 3, 60) = 0",
        "cracks(1) = 0", "set(2, 219) = 259", "cracks(1) = 1", "set(2, 220) = 219", "cracks(1) = 0").end();
  }

  private static void peelsRefusals() {
    for (int d = 0; d < 8; d++) {
      script("18: -1, -11, -12").due("peels(" + d + ") = -11", "row(" + d + ", 0, 1) = 0", "peels(" + d + ") = -12",
          "row(" + d + ", 2, 0) = 0", "peels(" + d + ") = -12", "keep(" + d + ", 1, 1, 0) = 0", "peels(" + d + ") = 61",
          "keep(" + d + ", 0, 0, 0) = 0", "peels(" + d + ") = -11").outside("peels(%)", 0, 7, "-1").end();
    }
  }

  private static void peelsEdges() {
    int[] more = {0, 40, 0, 0, 40, 40, 40, 40};
    for (int kind = 0; kind < 8; kind++) {
      Script s = script("18: AGE times 3, and 40 .., 100 at most, kind " + kind).due("keep(1, 1, " + kind + ", 0) = 0",
          "keep(2, 1, " + kind + ", 60) = 0");
      int was = 7;
      for (int age : new int[] {0, 1, 19, 20, 21, 33, 34, 59, 60}) {
        int due = Math.min(100, 3 * age + more[kind]);
        s.due("set(4, " + age + ") = " + was, "peels(1) = " + due, "peels(2) = " + due);
        was = age;
      }
      s.end();
    }
  }

  private static void spinEdges() {
    for (int n = 2; n <= 12; n++) {
      script("19: 20 less how many SHELLS are LOOSE, times 2").due("set(0, " + n + ") = 6", "spin() = " + (40 - 2 * n)).end();
    }
    script("19: of the EGG as it is").due("keep(1, 1, 1, 0) = 0", "go(1, 600) = 600", "state(4) = 0", "spin() = 40",
        "image() = 600", "fresh() = 6", "spin() = 28", "restore() = 600", "spin() = 40").end();
  }

  private static void toldRanges() {
    script("20: give or take n (0 .. 40)").outside("told(40, %, true)", 0, 40, "-1").outside("told(40, %, false)", 0, 40, "-1")
        .outside("told(MIN, %, false)", 0, 40, "-1").outside("told(MAX, %, true)", 0, 40, "-1").due("told(40, 0, true) = 0",
        "told(40, 0, false) = 0", "told(40, 40, true) = 6", "told(40, 40, false) = 0").end();
    script("20: any SPIN").due("told(MIN, 0, true) = -4", "told(MIN, 40, false) = -4", "told(MAX, 0, false) = -4",
        "told(MAX, 40, true) = -4", "told(-2147483609, 40, true) = -4", "told(2147483607, 40, false) = -4",
        "told(0, 0, true) = -4", "told(-1, 0, true) = -4").end();
    // a difference that wraps around to the least int would have no size
    script("20: no SPIN wraps around").due("told(-2147483608, 0, true) = -4", "told(-2147483608, 40, false) = -4",
        "told(-2147483620, 0, true) = -4", "told(-2147483614, 0, false) = -4", "told(-2147483648, 0, true) = -4").end();
  }

  private static void toldEdges() {
    // six SHELLS: SPINS 40, 38, .. 28
    script("20: the least and the greatest; -4").due("told(40, 0, false) = 0", "told(41, 0, false) = -4",
        "told(41, 1, false) = 0", "told(41, 1, true) = 0", "told(41, 3, true) = 1", "told(39, 0, true) = -4",
        "told(39, 1, false) = 0", "told(39, 1, true) = 1", "told(28, 0, true) = 6", "told(28, 0, false) = 6",
        "told(28, 1, false) = 6", "told(28, 2, false) = 5", "told(28, 2, true) = 6", "told(27, 0, true) = -4",
        "told(27, 1, true) = 6", "told(26, 1, true) = -4", "told(26, 2, false) = 6", "told(34, 0, true) = 3",
        "told(34, 2, false) = 2", "told(34, 2, true) = 4", "told(80, 40, true) = 0", "told(81, 40, true) = -4",
        "told(-12, 40, false) = 6", "told(-13, 40, false) = -4", "told(34, 6, false) = 0", "told(34, 6, true) = 6").end();
  }

  private static void toldByShells() {
    for (int n = 2; n <= 12; n++) {
      int least = 40 - 2 * n;
      script("20: 0 .. as many as there are, " + n).due("set(0, " + n + ") = 6", "told(" + least + ", 0, true) = " + n,
          "told(" + (least - 1) + ", 0, true) = -4", "told(" + (least - 2) + ", 0, true) = -4",
          "told(" + (least - 2) + ", 2, false) = " + n, "told(40, 0, false) = 0", "told(20, 40, true) = " + n,
          "told(20, 40, false) = 0", "keep(1, 1, 1, 0) = 0", "go(1, 600) = 600", "told(" + least + ", 0, true) = " + n).end();
    }
  }

  private static void judgeShells() {
    for (int n = 2; n <= 12; n++) {
      script("21: of a SHELL, with " + n).due("set(0, " + n + ") = 6", "keep(1, 1, 0, 0) = 0", "row(2, 1, 0) = 0",
          "judge(0, 1, 2) = -4", "judge(" + (n - 1) + ", 1, 2) = -4").outside("judge(%, 1, 2)", 0, n - 1, "-1").end();
    }
  }

  private static void judgeShelves() {
    script("21: SHELF d, SHELF e").due("keep(0, 1, 1, 0) = 0", "row(7, 1, 0) = 0", "judge(0, 0, 7) = -4",
        "keep(7, 1, 1, 0) = 0", "row(0, 0, 0) = 0", "judge(0, 7, 0) = -4").outside("judge(0, %, 0)", 0, 7, "-1")
        .outside("judge(0, 7, %)", 0, 7, "-1").end();
  }

  private static void judgeRefusals() {
    script("21: -1, -11 (either), -12 (no DOING; no ROW)").due("keep(1, 1, 1, 0) = 0").numbers(2, 1, 50).due(
        "judge(0, 1, 2) = -4", "judge(6, 0, 2) = -1", "judge(6, 2, 2) = -1", "judge(-1, 1, 1) = -1", "judge(0, 8, 0) = -1",
        "judge(0, 0, 8) = -1", "judge(0, 8, 1) = -1", "judge(0, 2, -1) = -1", "judge(0, 0, 2) = -11", "judge(0, 1, 0) = -11",
        "judge(0, 0, 0) = -11", "judge(0, 0, 1) = -11", "judge(0, 2, 0) = -11", "judge(0, 2, 2) = -12",
        "judge(0, 1, 1) = -12", "judge(0, 2, 1) = -12").numbers(3, 0, 50).numbers(4, 2, 50).due("judge(0, 1, 3) = -4",
        "judge(0, 1, 4) = -4", "judge(0, 3, 4) = -12").end();
  }

  private static void judgeReadings() {
    small("21: behind SECONDS 1, 2, ..; the place of the first that isn't so").numbers(2, 1).due("judge(0, 1, 2) = -4")
        .numbers(2, 1, 0).due("judge(0, 1, 2) = -4", "judge(1, 1, 2) = 0").numbers(2, 1, 0, 22, 56).due(
        "judge(0, 1, 2) = -4", "put(2, 2, 55) = 0", "judge(0, 1, 2) = 2", "put(2, 1, 23) = 0", "judge(0, 1, 2) = 1",
        "put(2, 0, 1) = 0", "judge(0, 1, 2) = 0").numbers(2, 2, 150, 255, 332).due("judge(1, 1, 2) = -4",
        "go(1, 50) = 50", "judge(1, 1, 2) = -4", "put(2, 0, 65686) = 0", "judge(1, 1, 2) = 0").numbers(2, 1, 65686, 255)
        .due("judge(1, 1, 2) = -4").numbers(2, 0, 150, 255).due("judge(1, 1, 2) = 0").numbers(2, 0, 0, 22).due(
        "judge(0, 1, 2) = -4").end();
  }

  private static void judgeSkips() {
    small("21: the least number of the SORT is skipped, bytes").numbers(2, 0, -128, -128, -128).due("judge(1, 1, 2) = -4",
        "put(2, 2, -127) = 0", "judge(1, 1, 2) = 2", "put(2, 2, 127) = 0", "judge(1, 1, 2) = 2", "put(2, 2, 128) = 0",
        "judge(1, 1, 2) = -4", "put(2, 1, 0) = 0", "judge(1, 1, 2) = 1", "put(2, 1, MIN) = 0", "judge(1, 1, 2) = 1").end();
    small("21: the least number of the SORT is skipped, shorts").numbers(2, 1, -32768, 255, -32768).due("judge(1, 1, 2) = -4",
        "put(2, 2, -32767) = 0", "judge(1, 1, 2) = 2", "put(2, 2, 32767) = 0", "judge(1, 1, 2) = 2", "put(2, 2, 32768) = 0",
        "judge(1, 1, 2) = -4", "put(2, 0, -128) = 0", "judge(1, 1, 2) = 0", "put(2, 0, MIN) = 0", "judge(1, 1, 2) = 0").end();
    small("21: the least number of the SORT is skipped, ints").numbers(2, 2, Integer.MIN_VALUE, 255, 332).due(
        "judge(1, 1, 2) = -4", "put(2, 2, MIN) = 0", "judge(1, 1, 2) = -4", "put(2, 2, MAX) = 0", "judge(1, 1, 2) = 2",
        "put(2, 2, -2147483647) = 0", "judge(1, 1, 2) = 2", "put(2, 1, -32768) = 0", "judge(1, 1, 2) = 1",
        "put(2, 0, -128) = 0", "judge(1, 1, 2) = 0").end();
  }

  private static void judgeLongest() {
    int[] readings = new int[100];
    PlainEgg egg = plain(2, 1, 0, 10);
    for (int i = 0; i < 100; i++) {
      egg.second(4, 9);
      readings[i] = egg.warmth[1];
    }
    small("21: 100 readings").due("keep(1, 1, 4, 9) = 0").numbers(2, 1, readings).due("judge(1, 1, 2) = -4",
        "put(2, 99, " + (readings[99] + 1) + ") = 0", "judge(1, 1, 2) = 99", "put(2, 99, -32768) = 0", "judge(1, 1, 2) = -4",
        "put(2, 0, " + (readings[0] - 1) + ") = 0", "judge(1, 1, 2) = 0").end();
  }

  /** What one call had in mind, with other SHELLS or another BOX, is nothing to the next. */
  private static void inMindAnew() {
    Script s = small("in mind, each time anew").numbers(2, 1, 255, 255, 22, 22).numbers(3, 0, 5, 1).numbers(4, 1, 0, 22, 56);
    for (String other : new String[] {"table(1, 12, 9) = 0", "size(1, 12, 0) = 1", "bears(3, 0, 600) = 1"}) {
      s.due(other, "off(1, 2) = -22", other, "least(1, 2) = 2", other, "near(1, 2, 1, 0) = 127", other,
          "found(2, 9, 0) = 1", other, "judge(0, 1, 4) = -4", other, "table(1, 2, 3) = 56", other, "size(1, 2, 56) = 3",
          other, "spin() = 36", "had(2) = 0", "shell(1, 0) = 0", "go(1, 1) = 1", "shell(1, 0) = 150", "fresh() = 2");
    }
    s.end();
  }
}
