/** Promises 6 to 9, sentence by sentence: the edges and the refusals of each. */
public final class DoingEdgesTest {
  private static final Check check = new Check("DoingEdgesTest");
  private static final int[] AT_0 = {200, 1000, 100, 600, 1000, 20, 1000, 1000};
  private static final int[] AT_9999 = {200, 1000, 1000, 600, 300, 20, 1000, 1000};

  public static void main(String[] args) {
    potShelf();
    potSecond();
    potRefusals();
    potNoMoreThanBoiled();
    potTurns();
    potStopped();
    goShelf();
    goSeconds();
    goBeyond();
    goRefusals();
    goGoesOn();
    stateWhat();
    hadShelf();
    hadRefusals();
    hadElements();
    hadWarmths();
    hadEdges();
    check.end();
  }

  private static Script script(String sentence) {
    return new Script(check, sentence);
  }

  private static void potShelf() {
    Script s = script("6: the DOING in SHELF d");
    for (int d = 0; d < 8; d++) {
      s.due("keep(" + d + ", 1, " + d + ", 0) = 0");
    }
    for (int d = 0; d < 8; d++) {
      s.due("pot(" + d + ", 0) = " + AT_0[d], "pot(" + d + ", 9999) = " + AT_9999[d]);
    }
    s.outside("pot(%, 0)", 0, 7, "-1").outside("pot(%, 9999)", 0, 7, "-1").end();
  }

  private static void potSecond() {
    Script s = script("6: SECOND t (0 .. 9999)");
    for (int kind = 0; kind < 8; kind++) {
      s.due("keep(1, 1, " + kind + ", 60) = 0").outside("pot(1, %)", 0, 9999, "-1");
    }
    s.end();
  }

  private static void potRefusals() {
    script("6: -1, -11, -12").due("pot(1, 0) = -11", "pot(1, -1) = -1", "pot(1, 10000) = -1", "row(1, 0, 3) = 0",
        "pot(1, 0) = -12", "pot(1, -1) = -1", "pot(1, 10000) = -1", "row(1, 1, 0) = 0", "pot(1, 0) = -12",
        "row(1, 2, 100) = 0", "pot(1, 9999) = -12", "keep(1, 0, 0, 0) = 0", "pot(1, 9999) = -11").end();
  }

  private static void potNoMoreThanBoiled() {
    script("BEGUN: by FIGURE by 10, cut, and 1; no more than a BOILED's").due("keep(1, 1, 2, 0) = 0", "pot(1, 899) = 999",
        "pot(1, 900) = 1000", "pot(1, 901) = 1000", "keep(1, 1, 2, 9) = 0", "pot(1, 899) = 999", "keep(1, 1, 2, 10) = 0",
        "pot(1, 1) = 102", "pot(1, 449) = 998", "pot(1, 450) = 1000", "pot(1, 451) = 1000", "keep(1, 1, 2, 19) = 0",
        "pot(1, 1) = 102", "keep(1, 1, 2, 20) = 0", "pot(1, 1) = 103", "keep(1, 1, 2, 59) = 0", "pot(1, 149) = 994",
        "pot(1, 150) = 1000", "pot(1, 151) = 1000", "keep(1, 1, 2, 60) = 0", "pot(1, 128) = 996", "pot(1, 129) = 1000").end();
    script("MANY: less 5 FIGURE, and t more, no more than a BOILED's").due("keep(1, 1, 6, 0) = 0", "pot(1, 0) = 1000",
        "pot(1, 1) = 1000", "keep(1, 1, 6, 1) = 0", "pot(1, 0) = 995", "pot(1, 4) = 999", "pot(1, 5) = 1000",
        "pot(1, 6) = 1000", "keep(1, 1, 6, 60) = 0", "pot(1, 0) = 700", "pot(1, 299) = 999", "pot(1, 300) = 1000",
        "pot(1, 301) = 1000", "pot(1, 9999) = 1000").end();
    script("SLOW, HIGH: by the least and the greatest FIGURE").due("keep(1, 1, 3, 0) = 0", "pot(1, 0) = 600",
        "pot(1, 9999) = 600", "keep(1, 1, 3, 60) = 0", "pot(1, 0) = 720", "pot(1, 9999) = 720", "keep(1, 1, 7, 0) = 0",
        "pot(1, 0) = 1000", "keep(1, 1, 7, 60) = 0", "pot(1, 0) = 760", "pot(1, 9999) = 760", "keep(1, 1, 0, 60) = 0",
        "pot(1, 0) = 200", "keep(1, 1, 1, 60) = 0", "pot(1, 0) = 1000").end();
  }

  private static void potTurns() {
    script("TURNED: turns of FIGURE and 1 SECONDS, the first a BOILED's").due("keep(1, 1, 4, 0) = 0", "pot(1, 0) = 1000",
        "pot(1, 1) = 300", "pot(1, 2) = 1000", "pot(1, 3) = 300", "pot(1, 9998) = 1000", "pot(1, 9999) = 300",
        "keep(1, 1, 4, 1) = 0", "pot(1, 0) = 1000", "pot(1, 1) = 1000", "pot(1, 2) = 300", "pot(1, 3) = 300",
        "pot(1, 4) = 1000", "keep(1, 1, 4, 60) = 0", "pot(1, 60) = 1000", "pot(1, 61) = 300", "pot(1, 121) = 300",
        "pot(1, 122) = 1000", "pot(1, 182) = 1000", "pot(1, 183) = 300").end();
  }

  private static void potStopped() {
    script("STOPPED: a BOILED's before SECOND 10 FIGURE, from then on 20").due("keep(1, 1, 5, 0) = 0", "pot(1, 0) = 20",
        "pot(1, 1) = 20", "keep(1, 1, 5, 1) = 0", "pot(1, 0) = 1000", "pot(1, 9) = 1000", "pot(1, 10) = 20",
        "pot(1, 11) = 20", "keep(1, 1, 5, 60) = 0", "pot(1, 599) = 1000", "pot(1, 600) = 20", "pot(1, 9999) = 20").end();
  }

  private static void goShelf() {
    for (int d = 0; d < 8; d++) {
      script("7: by the DOING in SHELF d").due("go(" + d + ", 1) = -11", "keep(" + d + ", 1, 1, 0) = 0",
          "go(" + d + ", 1) = 1", "shell(5, 0) = 192").outside("go(%, 1)", 0, 7, "-1").end();
    }
  }

  private static void goSeconds() {
    script("7: n SECONDS (1 .. 600)").due("keep(1, 1, 1, 0) = 0").outside("go(1, %)", 1, 600, "-1").due("go(1, 1) = 1",
        "go(1, 600) = 601").outside("go(1, %)", 1, 600, "-1").due("state(0) = 601").end();
  }

  private static void goBeyond() {
    Script s = script("7: -2 (beyond 9999)").due("keep(1, 1, 1, 0) = 0", "row(2, 0, 4) = 0");
    for (int i = 1; i <= 16; i++) {
      s.due("go(1, 600) = " + 600 * i);
    }
    s.due("go(1, 400) = -2", "go(1, 600) = -2", "go(1, 601) = -1", "go(1, MAX) = -1", "go(1, 0) = -1", "go(8, 600) = -1",
        "go(-1, 600) = -1", "go(3, 400) = -2", "go(2, 400) = -2", "go(3, 399) = -11", "go(2, 399) = -12",
        "go(1, 399) = 9999", "go(1, 1) = -2", "go(3, 1) = -2", "go(2, 1) = -2", "go(1, 0) = -1", "go(8, 1) = -1",
        "state(0) = 9999", "image() = 9999", "fresh() = 6", "go(1, 1) = 1", "restore() = 9999", "go(1, 1) = -2").end();
  }

  private static void goRefusals() {
    script("7: -1, -11, -12").due("go(1, 5) = -11", "go(1, 0) = -1", "go(1, 601) = -1", "row(1, 0, 3) = 0",
        "go(1, 5) = -12", "go(1, 0) = -1", "go(1, 601) = -1", "row(1, 1, 3) = 0", "go(1, 5) = -12", "row(1, 2, 3) = 0",
        "go(1, 5) = -12", "state(0) = 0").end();
  }

  private static void goGoesOn() {
    script("7: its t going on from the EGG's SECOND").text(0, "n2;y0;b0;p20;").due("egg(0) = 4", "keep(1, 1, 5, 1) = 0",
        "keep(2, 1, 4, 4) = 0", "go(1, 9) = 9", "image() = 9", "go(1, 1) = 10", "restore() = 9", "go(2, 1) = 10",
        "fresh() = 2", "go(1, 10) = 10").end();
    EggMinute x = Check.eggOf("n2;y0;b0;p20;");
    PlainEgg plain = new PlainEgg();
    plain.shells = 2;
    plain.y = 0;
    plain.box = 0;
    plain.pass = 20;
    plain.fresh();
    for (int s = 0; s < 40; s++) {
      int kind = 4 + s % 2;
      int figure = 1 + s % 3;
      x.keep(1, 1, kind, figure);
      x.go(1, 1);
      plain.second(kind, figure);
      check.due("7: by turns of doings, outmost at " + s, x.shell(1, 0), plain.warmth[1]);
      check.due("7: by turns of doings, middle at " + s, x.shell(0, 0), plain.warmth[0]);
    }
  }

  private static void stateWhat() {
    script("8: of the EGG").text(0, "n2;y1;b300;p30;").due("egg(0) = 4", "state(0) = 0", "state(1) = 600", "state(2) = 0",
        "state(3) = 0", "state(4) = 2", "state(5) = 300", "keep(1, 1, 1, 0) = 0", "go(1, 2) = 2", "keep(2, 1, 5, 0) = 0",
        "go(2, 1) = 3", "state(0) = 3", "state(1) = 806", "state(2) = 3", "state(3) = 0", "state(4) = 2", "state(5) = 647")
        .outside("state(%)", 0, 5, "-1").end();
    script("8: all of twelve SHELLS").text(0, "n12;b300;").due("egg(0) = 2", "state(1) = 3600", "state(4) = 12",
        "state(5) = 300", "set(2, 0) = 300", "state(1) = 0", "state(5) = 0").end();
  }

  private static void hadShelf() {
    for (int d = 0; d < 8; d++) {
      script("9: the WANT in SHELF d").due("had(" + d + ") = -11").numbers(d, 1, 50, 50, 50, 50).due("had(" + d + ") = 1")
          .outside("had(%)", 0, 7, "-1").end();
    }
  }

  private static void hadRefusals() {
    script("9: -11, -12 (no ROW of shorts or ints)").due("had(2) = -11", "keep(2, 1, 0, 0) = 0", "had(2) = -12",
        "keep(2, 1, 7, 4) = 0", "had(2) = -12").numbers(2, 0, 50, 50, 50, 50).due("had(2) = -12").numbers(2, 0, 50)
        .due("had(2) = -12").numbers(2, 0, -1, 50, 50, 50).due("had(2) = -12").numbers(2, 1, 50, 50, 50, 50)
        .due("had(2) = 1").numbers(2, 2, 50, 50, 50, 50).due("had(2) = 1", "keep(2, 0, 0, 0) = 0", "had(2) = -11").end();
  }

  private static void hadElements() {
    for (int sort = 1; sort <= 2; sort++) {
      Script s = script("9: 4 elements; -13 else, sort " + sort);
      for (int n : new int[] {0, 1, 2, 3, 5, 6, 8, 100}) {
        s.due("row(2, " + sort + ", " + n + ") = 0", "had(2) = -13");
      }
      s.due("row(2, " + sort + ", 4) = 0", "had(2) = 0").end();
    }
  }

  private static void hadWarmths() {
    for (int sort = 1; sort <= 2; sort++) {
      for (int i = 0; i < 4; i++) {
        String put = "put(2, " + i + ", ";
        script("9: WARMTHS (0 .. 1200), sort " + sort).numbers(2, sort, 0, 1200, 0, 1200).due("had(2) = 1",
            put + "1201) = 0", "had(2) = -13", put + "-1) = 0", "had(2) = -13", put + "32767) = 0", "had(2) = -13",
            put + "-32768) = 0", "had(2) = -13", put + "0) = 0", "had(2) = " + (i % 2 == 0 ? 1 : 0), put + "1200) = 0",
            "had(2) = " + (i % 2 == 0 ? 0 : 1), put + "MAX) = 0", "had(2) = -13").end();
      }
    }
    script("9: a short keeps its lowest bits").numbers(2, 1, 65536, 66736, 131072, 1200).due("had(2) = 1").end();
    script("9: an int keeps all").numbers(2, 2, 65536, 66736, 131072, 1200).due("had(2) = -13").end();
  }

  private static void hadEdges() {
    // yolk: peak 533, white: peak 647, now at 273
    script("9: HAD, if the PEAK of each SHELL is within its part's two").text(0, "n2;y1;b300;p30;").due("egg(0) = 4",
        "keep(1, 1, 1, 0) = 0", "keep(3, 1, 5, 0) = 0", "go(1, 2) = 2", "go(3, 1) = 3").numbers(2, 1, 647, 647, 533, 533)
        .due("had(2) = 1", "put(2, 0, 648) = 0", "had(2) = 0", "put(2, 0, 646) = 0", "had(2) = 1", "put(2, 1, 646) = 0",
        "had(2) = 0", "put(2, 1, 648) = 0", "had(2) = 1", "put(2, 2, 534) = 0", "had(2) = 0", "put(2, 2, 532) = 0",
        "had(2) = 1", "put(2, 3, 532) = 0", "had(2) = 0", "put(2, 3, 534) = 0", "had(2) = 1", "put(2, 0, 1200) = 0",
        "put(2, 1, 0) = 0", "had(2) = 0").end();
    script("9: a part without SHELLS is HAD").due("set(1, 0) = 3").numbers(2, 2, 50, 50, 1200, 0).due("had(2) = 1",
        "set(1, 12) = 0", "had(2) = 0").numbers(2, 2, 1200, 0, 50, 50).due("had(2) = 1", "set(1, 6) = 12", "had(2) = 1",
        "set(1, 5) = 6", "had(2) = 0").end();
  }
}
