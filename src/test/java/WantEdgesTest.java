/** Promises 10 to 12 and section 3, sentence by sentence: the edges and the refusals of each. */
public final class WantEdgesTest {
  private static final Check check = new Check("WantEdgesTest");

  public static void main(String[] args) {
    leastShelves();
    leastRefusals();
    leastWants();
    leastFirstSecond();
    leastUpTo600();
    leastOfAFreshEgg();
    nearShelves();
    nearRefusals();
    nearWants();
    nearRanges();
    nearFromSecond1();
    nearFirstOfSeveral();
    nearTogether();
    nearUpToN();
    foundShelf();
    foundRefusals();
    foundWants();
    foundRanges();
    foundLeastFigure();
    foundGreatestFigure();
    foundUpTo300();
    check.end();
  }

  private static Script script(String sentence) {
    return new Script(check, sentence);
  }

  /** Two SHELLS, yolk 0, 22, 56 and white 150, 255, 332 behind SECONDS 1, 2, 3 of a BOILED. */
  private static Script small(String sentence) {
    return script(sentence).text(7, "n2;y1;b0;p10;").due("egg(7) = 4", "keep(7, 0, 0, 0) = 0", "keep(1, 1, 1, 0) = 0");
  }

  private static PlainEgg plain(int shells, int y, int box, int pass) {
    PlainEgg egg = new PlainEgg();
    egg.shells = shells;
    egg.y = y;
    egg.box = box;
    egg.pass = pass;
    egg.fresh();
    return egg;
  }

  private static void leastShelves() {
    script("10: SHELF d, SHELF e").due("keep(0, 1, 1, 0) = 0").numbers(7, 1, 0, 1200, 0, 1200).due("least(0, 7) = 1",
        "keep(7, 1, 1, 0) = 0").numbers(0, 2, 0, 1200, 0, 1200).due("least(7, 0) = 1").outside("least(%, 0)", 0, 7, "-1")
        .outside("least(7, %)", 0, 7, "-1").end();
  }

  /** SHELVES: 0 nothing, 1 a DOING, 2 a WANT, 3 bytes, 4 three shorts, 5 a WANT that is none. */
  private static Script shelves(String sentence) {
    return script(sentence).due("keep(1, 1, 1, 0) = 0").numbers(2, 1, 0, 1200, 0, 1200).numbers(3, 0, 0, 0, 0, 0)
        .numbers(4, 1, 0, 0, 0).numbers(5, 2, 0, 1201, 0, 0);
  }

  private static void leastRefusals() {
    shelves("10: -1, -11 (either), -12 (no DOING; no ROW of shorts or ints), -13").due("least(1, 2) = 1",
        "least(8, 0) = -1", "least(0, 8) = -1", "least(8, 3) = -1", "least(3, 8) = -1", "least(8, 5) = -1",
        "least(0, 2) = -11", "least(1, 0) = -11", "least(0, 0) = -11", "least(0, 3) = -11", "least(2, 0) = -11",
        "least(0, 1) = -11", "least(0, 5) = -11", "least(0, 4) = -11",
        "least(2, 2) = -12", "least(3, 2) = -12", "least(1, 1) = -12", "least(1, 3) = -12", "least(2, 1) = -12",
        "least(2, 5) = -12", "least(3, 4) = -12", "least(3, 3) = -12",
        "least(1, 4) = -13", "least(1, 5) = -13").end();
  }

  private static void leastWants() {
    for (int sort = 1; sort <= 2; sort++) {
      Script s = script("10: a WANT has 4 elements, sort " + sort).due("keep(1, 1, 1, 0) = 0");
      for (int n : new int[] {0, 3, 5, 100}) {
        s.due("row(2, " + sort + ", " + n + ") = 0", "least(1, 2) = -13");
      }
      s.due("row(2, " + sort + ", 4) = 0", "least(1, 2) = -4").numbers(2, sort, 0, 1200, 0, 1200);
      for (int i = 0; i < 4; i++) {
        s.due("put(2, " + i + ", 1201) = 0", "least(1, 2) = -13", "put(2, " + i + ", -1) = 0", "least(1, 2) = -13",
            "put(2, " + i + ", " + (i % 2 == 0 ? 0 : 1200) + ") = 0", "least(1, 2) = 1");
      }
      s.end();
    }
  }

  private static void leastFirstSecond() {
    small("10: the first SECOND at whose end it is HAD").numbers(2, 1, 0, 1200, 0, 1200).due("least(1, 2) = 1")
        .numbers(2, 1, 150, 150, 0, 0).due("least(1, 2) = 1").numbers(2, 1, 151, 1200, 0, 1200).due("least(1, 2) = 2")
        .numbers(2, 1, 256, 1200, 0, 1200).due("least(1, 2) = 3").numbers(2, 1, 0, 1200, 23, 1200).due("least(1, 2) = 3")
        .numbers(2, 1, 0, 1200, 22, 22).due("least(1, 2) = 2").numbers(2, 1, 0, 149, 0, 1200).due("least(1, 2) = -4")
        .numbers(2, 1, 151, 254, 0, 1200).due("least(1, 2) = -4").numbers(2, 1, 0, 254, 22, 1200).due("least(1, 2) = -4")
        .numbers(2, 1, 0, 0, 0, 0).due("least(1, 2) = -4").end();
  }

  private static void leastUpTo600() {
    PlainEgg egg = plain(6, 5, 50, 10);
    egg.seconds(2, 0, 600);
    int at600 = egg.peak[5];
    egg.second(2, 0);
    check.dueTrue("10: it is still warming at 600", egg.peak[5] > at600);
    Script s = script("10: up to 600 SECONDS").due("keep(1, 1, 2, 0) = 0", "set(1, 5) = 3").numbers(2, 1, 0, 1200, 0, 1200);
    for (int w = at600 - 2; w <= at600 + 2; w++) {
      s.due("put(2, 0, " + w + ") = 0", "least(1, 2) = " + firstOf(w));
    }
    s.end();
    check.due("10: just at 600", firstOf(at600), 600);
    check.due("10: not at 600 any more", firstOf(at600 + 1), -4);
  }

  /** The SECOND at which the outmost alone, WHITE, comes to a WARMTH by a BEGUN, told slowly. */
  private static int firstOf(int warmth) {
    return plain(6, 5, 50, 10).least(2, 0, new int[] {warmth, 1200, 0, 1200}, 600);
  }

  private static void leastOfAFreshEgg() {
    small("10: of a FRESH EGG (in mind)").numbers(2, 1, 151, 1200, 0, 1200).due("go(1, 600) = 600", "image() = 600",
        "least(1, 2) = 2", "state(0) = 600", "fresh() = 2", "least(1, 2) = 2", "restore() = 600", "least(1, 2) = 2").end();
  }

  private static void nearShelves() {
    script("11: SHELF d, SHELF e").due("keep(0, 1, 1, 0) = 0").numbers(7, 1, 0, 1200, 0, 1200).due(
        "near(0, 7, 1, 0) = 0", "near(0, 7, 1, 1) = 1", "keep(7, 1, 1, 0) = 0").numbers(0, 2, 0, 1200, 0, 1200).due(
        "near(7, 0, 600, 1) = 1").outside("near(%, 0, 5, 0)", 0, 7, "-1").outside("near(7, %, 5, 0)", 0, 7, "-1").end();
  }

  private static void nearRefusals() {
    shelves("11: -1, -11, -12, -13").due("near(1, 2, 5, 1) = 1",
        "near(8, 0, 5, 0) = -1", "near(0, 8, 5, 0) = -1", "near(0, 2, 0, 0) = -1", "near(1, 0, 601, 0) = -1",
        "near(0, 2, 5, 2) = -1", "near(2, 2, 0, 0) = -1", "near(1, 3, 5, -1) = -1", "near(1, 4, 0, 0) = -1",
        "near(1, 5, 5, 2) = -1", "near(0, 2, 5, 0) = -11", "near(1, 0, 5, 0) = -11", "near(0, 0, 5, 1) = -11",
        "near(0, 3, 5, 0) = -11", "near(3, 0, 5, 0) = -11", "near(0, 4, 5, 0) = -11", "near(2, 2, 5, 0) = -12",
        "near(1, 1, 5, 0) = -12", "near(1, 3, 5, 0) = -12", "near(3, 5, 5, 0) = -12", "near(2, 4, 5, 0) = -12",
        "near(1, 4, 5, 0) = -13", "near(1, 4, 5, 1) = -13", "near(1, 5, 5, 0) = -13", "near(1, 5, 600, 1) = -13").end();
  }

  private static void nearWants() {
    for (int sort = 1; sort <= 2; sort++) {
      Script s = script("11: a WANT has 4 elements, sort " + sort).due("keep(1, 1, 1, 0) = 0");
      for (int n : new int[] {0, 3, 5, 100}) {
        s.due("row(2, " + sort + ", " + n + ") = 0", "near(1, 2, 5, 0) = -13");
      }
      s.numbers(2, sort, 0, 1200, 0, 1200);
      for (int i = 0; i < 4; i++) {
        s.due("put(2, " + i + ", 1201) = 0", "near(1, 2, 5, 0) = -13", "put(2, " + i + ", -1) = 0",
            "near(1, 2, 5, 1) = -13", "put(2, " + i + ", " + (i % 2 == 0 ? 0 : 1200) + ") = 0", "near(1, 2, 5, 0) = 0");
      }
      s.end();
    }
  }

  private static void nearRanges() {
    small("11: up to n (1 .. 600), what 0, 1").numbers(2, 1, 300, 310, 60, 70).due("near(1, 2, 1, 0) = 210",
        "near(1, 2, 1, 1) = 1").outside("near(1, 2, %, 0)", 1, 600, "-1").outside("near(1, 2, %, 1)", 1, 600, "-1")
        .outside("near(1, 2, 1, %)", 0, 1, "-1").due("near(1, 2, 600, 0) = 26", "near(1, 2, 600, 1) = 3").end();
  }

  private static void nearFromSecond1() {
    // as it is at first it would be just 0 off: that is no SECOND
    script("11: the least over SECONDS 1 ..").due("keep(1, 1, 1, 0) = 0").numbers(2, 1, 50, 50, 50, 50).due(
        "near(1, 2, 1, 0) = 142", "near(1, 2, 1, 1) = 1", "near(1, 2, 600, 0) = 142", "near(1, 2, 600, 1) = 1").end();
  }

  private static void nearFirstOfSeveral() {
    script("11: the first SECOND of that").due("keep(1, 1, 0, 0) = 0", "set(2, 200) = 50").numbers(2, 1, 900, 950, 900, 950)
        .due("near(1, 2, 600, 0) = 4200", "near(1, 2, 600, 1) = 1").end();
    small("11: the first SECOND at which it is HAD").numbers(2, 1, 255, 332, 22, 56).due("near(1, 2, 600, 0) = 0",
        "near(1, 2, 600, 1) = 2", "near(1, 2, 1, 0) = 127").end();
  }

  private static void nearTogether() {
    small("11: all that PEAKS are off, together").numbers(2, 2, 160, 170, 7, 9).due("near(1, 2, 1, 0) = 17")
        .numbers(2, 2, 130, 149, 0, 0).due("near(1, 2, 1, 0) = 1").numbers(2, 2, 150, 150, 0, 0).due("near(1, 2, 1, 0) = 0")
        .numbers(2, 2, 151, 1200, 1, 1200).due("near(1, 2, 1, 0) = 2").numbers(2, 2, 0, 100, 0, 0)
        .due("near(1, 2, 1, 0) = 50").end();
    script("11: all that twelve are off at most").text(7, "n12;y12;b0;p1;").due("egg(7) = 4", "keep(1, 1, 5, 0) = 0")
        .numbers(2, 2, 0, 0, 1200, 1200).due("near(1, 2, 1, 0) = 14400", "near(1, 2, 600, 0) = 14400",
        "near(1, 2, 600, 1) = 1", "set(1, 0) = 12", "near(1, 2, 600, 0) = 0").end();
  }

  private static void nearUpToN() {
    PlainEgg egg = plain(6, 3, 50, 10);
    egg.seconds(2, 0, 600);
    int off = 0;
    for (int i = 0; i < 6; i++) {
      off += 1200 - egg.peak[i];
    }
    script("11: the 600th SECOND counts").due("keep(1, 1, 2, 0) = 0").numbers(2, 1, 1200, 1200, 1200, 1200)
        .due("near(1, 2, 600, 0) = " + off, "near(1, 2, 600, 1) = 600", "near(1, 2, 599, 1) = 599", "near(1, 2, 2, 1) = 2")
        .end();
  }

  private static void foundShelf() {
    for (int d = 0; d < 8; d++) {
      script("12: the WANT in SHELF d").due("found(" + d + ", 1, 0) = -11").numbers(d, 1, 0, 1200, 0, 1200)
          .due("found(" + d + ", 1, 0) = 0", "found(" + d + ", 1, 1) = 1").outside("found(%, 5, 0)", 0, 7, "-1").end();
    }
  }

  private static void foundRefusals() {
    shelves("12: -1, -11, -12, -13").due("found(2, 5, 0) = 0", "found(0, 0, 0) = -1", "found(0, 301, 0) = -1",
        "found(0, 5, 2) = -1", "found(1, 0, 0) = -1", "found(3, 5, -1) = -1", "found(4, 301, 1) = -1",
        "found(5, 5, 2) = -1", "found(8, 5, 0) = -1", "found(0, 5, 0) = -11", "found(0, 5, 1) = -11",
        "found(1, 5, 0) = -12", "found(3, 5, 1) = -12", "found(4, 5, 0) = -13", "found(5, 5, 1) = -13").end();
  }

  private static void foundWants() {
    for (int sort = 1; sort <= 2; sort++) {
      Script s = script("12: a WANT has 4 elements, sort " + sort);
      for (int n : new int[] {0, 3, 5, 100}) {
        s.due("row(2, " + sort + ", " + n + ") = 0", "found(2, 5, 0) = -13");
      }
      s.numbers(2, sort, 0, 1200, 0, 1200);
      for (int i = 0; i < 4; i++) {
        s.due("put(2, " + i + ", 1201) = 0", "found(2, 5, 0) = -13", "put(2, " + i + ", -1) = 0", "found(2, 5, 1) = -13",
            "put(2, " + i + ", " + (i % 2 == 0 ? 0 : 1200) + ") = 0", "found(2, 5, 0) = 0");
      }
      s.end();
    }
    script("12: bytes are none, whatever they hold").numbers(2, 0, 0, 1, 0, 1).due("found(2, 5, 0) = -12")
        .numbers(2, 0, 0).due("found(2, 5, 0) = -12").end();
  }

  private static void foundRanges() {
    small("12: within n SECONDS (1 .. 300), what 0, 1").numbers(2, 1, 332, 1200, 56, 1200).outside("found(2, %, 0)", 1, 300,
        "-1").outside("found(2, %, 1)", 1, 300, "-1").outside("found(2, 5, %)", 0, 1, "-1").due("found(2, 1, 0) = -4",
        "found(2, 1, 1) = -4", "found(2, 2, 0) = -4", "found(2, 2, 1) = -4", "found(2, 3, 0) = 2", "found(2, 3, 1) = 3",
        "found(2, 300, 0) = 2", "found(2, 300, 1) = 3").end();
  }

  private static void foundLeastFigure() {
    // all of them are at a boil in their first SECOND, those from FIGURE 1 on in their second, ..
    small("12: the one that HAS it soonest (of several the least FIGURE)").numbers(2, 1, 150, 1200, 0, 1200).due(
        "found(2, 300, 0) = 0", "found(2, 300, 1) = 1").numbers(2, 1, 255, 1200, 0, 1200).due("found(2, 300, 0) = 1",
        "found(2, 300, 1) = 2").numbers(2, 1, 332, 1200, 0, 1200).due("found(2, 300, 0) = 2", "found(2, 300, 1) = 3")
        .numbers(2, 1, 332, 332, 0, 1200).due("found(2, 300, 0) = 2", "found(2, 300, 1) = 3").numbers(2, 1, 1100, 1200, 0,
        1200).due("found(2, 300, 0) = -4", "found(2, 300, 1) = -4").end();
  }

  private static void foundGreatestFigure() {
    // only the one with FIGURE 60 is at a boil for 61 SECONDS on end
    PlainEgg egg = plain(6, 5, 50, 10);
    egg.seconds(1, 0, 60);
    int at60 = egg.peak[5];
    egg.second(1, 0);
    int at61 = egg.peak[5];
    check.dueTrue("12: still warming", at61 > at60);
    script("12: FIGURES 0 .. 60").due("set(1, 5) = 3").numbers(2, 1, at61, 1200, 0, 1200).due("found(2, 61, 0) = 60",
        "found(2, 61, 1) = 61", "found(2, 60, 0) = -4", "found(2, 60, 1) = -4", "put(2, 0, " + at60 + ") = 0",
        "found(2, 61, 0) = 59", "found(2, 61, 1) = 60").end();
  }

  private static void foundUpTo300() {
    // by FIGURE 59 the third turn at a boil ends with SECOND 300
    PlainEgg egg = plain(2, 1, 0, 1);
    egg.seconds(4, 59, 300);
    int at300 = egg.peak[1];
    int[] slowly = plain(2, 1, 0, 1).found(new int[] {at300, 1200, 0, 1200}, 300);
    check.due("12: the FIGURE of SECOND 300", slowly[0], 59);
    check.due("12: SECOND 300", slowly[1], 300);
    small("12: the 300th SECOND counts").due("set(3, 1) = 10").numbers(2, 1, at300, 1200, 0, 1200).due(
        "found(2, 300, 0) = 59", "found(2, 300, 1) = 300", "found(2, 299, 0) = -4", "found(2, 299, 1) = -4",
        "put(2, 0, " + (at300 + 1) + ") = 0", "found(2, 300, 0) = -4", "found(2, 300, 1) = -4").end();
  }
}
