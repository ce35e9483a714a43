/** Promises 1 to 5 and section 2, sentence by sentence: the edges and the refusals of each. */
public final class EggEdgesTest {
  private static final Check check = new Check("EggEdgesTest");
  private static final int[] FIRST = {6, 3, 50, 10, 7, 3};
  private static final int[] LEAST = {2, 0, 0, 1, 0, 0};
  private static final int[] MOST = {12, 12, 300, 30, 60, 20};
  private static final String LETTERS = "nybpai";

  public static void main(String[] args) {
    newObject();
    eggShelf();
    eggOnlyOfBytes();
    eggStatements();
    eggLetters();
    eggDigits();
    eggNoZeroAhead();
    eggSemicolons();
    eggEndsTooEarly();
    eggLongest();
    eggKindTwo();
    eggKindOneFirst();
    eggIsFresh();
    eggFaultChangesNothing();
    setEach();
    setWhat();
    setIsFresh();
    shellPlaces();
    shellWhat();
    fresh();
    check.end();
  }

  private static Script script(String sentence) {
    return new Script(check, sentence);
  }

  private static void newObject() {
    Script s = script("1: a FRESH EGG").due("state(0) = 0", "state(1) = 300", "state(2) = 0", "state(3) = 0",
        "state(4) = 6", "state(5) = 50", "spin() = 28", "restore() = -3", "shell(6, 0) = -1");
    for (int what = 0; what < 6; what++) {
      s.due("count(" + what + ") = " + FIRST[what]);
    }
    for (int d = 0; d < 8; d++) {
      s.due("pot(" + d + ", 0) = -11", "put(" + d + ", 0, 0) = -11", "weight(" + d + ") = -1000000011",
          "element(" + d + ", 0) = throws.IllegalStateException");
    }
    s.due("fresh() = 6").end();
    EggMinute one = new EggMinute();
    EggMinute other = new EggMinute();
    one.set(0, 9);
    one.keep(0, 1, 1, 5);
    one.image();
    check.due("1: objects share no EGG", other.count(0), 6);
    check.due("1: objects share no SHELVES", other.weight(0), -1000000011);
    check.due("1: objects share no IMAGE", other.restore(), -3);
  }

  private static void eggShelf() {
    for (int d = 0; d < 8; d++) {
      script("2: the text in SHELF d").due("egg(" + d + ") = -11").text(d, "n" + (d + 2) + ";").due("egg(" + d + ") = 1",
          "count(0) = " + (d + 2), "element(" + d + ", 1) = " + ('0' + d + 2)).end();
    }
    script("2: no such SHELF").text(0, "n5;").text(7, "n5;").outside("egg(%)", 0, 7, "-1").due("egg(0) = 1").end();
  }

  private static void eggOnlyOfBytes() {
    Script s = script("2: -12 (no ROW of bytes)").due("keep(0, 1, 1, 0) = 0", "egg(0) = -12", "keep(0, 1, 0, 0) = 0",
        "egg(0) = -12", "keep(0, 0, 0, 0) = 0", "egg(0) = -11");
    for (int sort = 1; sort <= 2; sort++) {
      s.numbers(0, sort, 'n', '5', ';').due("egg(0) = -12");
      // a text that is none, of the wrong sort: -12, no FAULT
      s.numbers(0, sort).due("egg(0) = -12").numbers(0, sort, 'x').due("egg(0) = -12");
      s.numbers(0, sort, 'n', '1', ';').due("egg(0) = -12");
    }
    s.due("count(0) = 6").end();
  }

  private static void eggStatements() {
    script("2: how many STATEMENTS").text(0, "n5;").due("egg(0) = 1").text(0, "n5;y0;").due("egg(0) = 2")
        .text(0, "i20;a60;p30;b300;y12;n12;").due("egg(0) = 6", "count(0) = 12", "count(1) = 12", "count(2) = 300",
        "count(3) = 30", "count(4) = 60", "count(5) = 20").text(0, "n2;y0;b0;p1;a0;i0;").due("egg(0) = 6",
        "count(0) = 2", "count(1) = 0", "count(2) = 0", "count(3) = 1", "count(4) = 0", "count(5) = 0").end();
    script("2: a letter may come again, the last stays").text(0, "n2;n12;n7;").due("egg(0) = 3", "count(0) = 7").end();
    script("2: what isn't told stays").due("set(0, 9) = 6", "set(1, 2) = 3", "set(2, 7) = 50", "set(3, 8) = 10",
        "set(4, 9) = 7", "set(5, 10) = 3").text(0, "n9;").due("egg(0) = 1", "count(0) = 9", "count(1) = 2",
        "count(2) = 7", "count(3) = 8", "count(4) = 9", "count(5) = 10").end();
    script("2: at least one STATEMENT").due("row(0, 0, 0) = 0", "egg(0) = -1000").text(0, ";").due("egg(0) = -1000").end();
  }

  private static void eggLetters() {
    for (int sign = -128; sign < 128; sign++) {
      boolean letter = sign > 0 && LETTERS.indexOf(sign) >= 0;
      EggMinute x = new EggMinute();
      Check.numbers(x, 0, 0, sign, '5', ';');
      check.due("2: sign " + sign + " as the first letter", x.egg(0), letter ? 1 : -1000);
      Check.numbers(x, 0, 0, 'a', '5', ';', sign, '5', ';');
      check.due("2: sign " + sign + " as a later letter", x.egg(0), letter ? 2 : -1003);
      Check.numbers(x, 0, 0, 'a', sign, ';');
      check.due("2: sign " + sign + " as a digit", x.egg(0), sign >= '0' && sign <= '9' ? 1 : -1001);
      Check.numbers(x, 0, 0, 'a', '5', sign);
      boolean goesOn = sign >= '0' && sign <= '9';
      check.due("2: sign " + sign + " behind a digit", x.egg(0), sign == ';' ? 1 : goesOn ? -1003 : -1002);
      Check.numbers(x, 0, 0, 'b', '1', '5', sign);
      check.due("2: sign " + sign + " behind two", x.egg(0), sign == ';' ? 1 : goesOn ? -1004 : -1003);
      Check.numbers(x, 0, 0, 'b', '1', '5', '5', sign);
      check.due("2: sign " + sign + " behind three", x.egg(0), sign == ';' ? 1 : -1004);
      Check.numbers(x, 0, 0, 'b', '0', sign);
      check.due("2: sign " + sign + " behind a 0", x.egg(0), sign == ';' ? 1 : -1002);
    }
  }

  private static void eggDigits() {
    script("2: NUMBERS have 1 to 3 digits").text(0, "b;").due("egg(0) = -1001").text(0, "b9;").due("egg(0) = 1")
        .text(0, "b99;").due("egg(0) = 1").text(0, "b299;").due("egg(0) = 1").text(0, "b2999;").due("egg(0) = -1004")
        .text(0, "b29999;").due("egg(0) = -1004").text(0, "b1000;").due("egg(0) = -1004").due("count(2) = 299").end();
    // ten digits would wrap around to a number in range
    script("2: no number wraps around").text(0, "b4294967296;").due("egg(0) = -1004").end();
  }

  private static void eggNoZeroAhead() {
    script("2: no 0 ahead of another").text(0, "b0;").due("egg(0) = 1", "count(2) = 0").text(0, "b00;").due("egg(0) = -1002")
        .text(0, "b01;").due("egg(0) = -1002").text(0, "b000;").due("egg(0) = -1002").text(0, "b010;")
        .due("egg(0) = -1002").text(0, "b10;").due("egg(0) = 1", "count(2) = 10").text(0, "b100;").due("egg(0) = 1",
        "count(2) = 100").text(0, "b101;").due("egg(0) = 1", "count(2) = 101").text(0, "y0;b05;").due("egg(0) = -1005")
        .end();
  }

  private static void eggSemicolons() {
    script("2: each with ; behind").text(0, "n5;;").due("egg(0) = -1003").text(0, "n5y3;").due("egg(0) = -1002")
        .text(0, ";n5;").due("egg(0) = -1000").text(0, "n5 ;").due("egg(0) = -1002").text(0, "n 5;").due("egg(0) = -1001")
        .text(0, "n5; y3;").due("egg(0) = -1003").text(0, "N5;").due("egg(0) = -1000").text(0, "n+5;")
        .due("egg(0) = -1001").text(0, "n-5;").due("egg(0) = -1001").end();
  }

  private static void eggEndsTooEarly() {
    String whole = "n10;y2;b300;";
    for (int size = 0; size <= whole.length(); size++) {
      EggMinute x = new EggMinute();
      Check.text(x, 0, whole.substring(0, size));
      int due = size == 4 ? 1 : size == 7 ? 2 : size == 12 ? 3 : -1000 - size;
      check.due("2: the size, if it ends too early: " + size, x.egg(0), due);
    }
  }

  private static void eggLongest() {
    StringBuilder text = new StringBuilder();
    for (int i = 0; i < 20; i++) {
      text.append("b").append(100 + i).append(";");
    }
    script("2: a text of 100 bytes").text(0, text.toString()).due("egg(0) = 20", "count(2) = 119", "put(0, 99, 49) = 0",
        "egg(0) = -1099", "put(0, 98, 59) = 0", "egg(0) = -1099", "put(0, 99, 98) = 0", "egg(0) = -1100",
        "put(0, 98, 57) = 0", "put(0, 99, 59) = 0", "put(0, 96, 57) = 0", "egg(0) = -2095", "put(0, 96, 48) = 0",
        "egg(0) = -1097").end();
    StringBuilder shortest = new StringBuilder();
    for (int i = 0; i < 33; i++) {
      shortest.append("y").append(i % 10).append(";");
    }
    script("2: 33 STATEMENTS").text(0, shortest.toString()).due("egg(0) = 33", "set(1, 3) = 2").end();
  }

  private static void eggKindTwo() {
    for (int what = 0; what < 6; what++) {
      char letter = LETTERS.charAt(what);
      Script s = script("2: kind 2, " + letter);
      s.text(0, letter + "" + MOST[what] + ";").due("egg(0) = 1", "set(" + what + ", " + MOST[what] + ") = " + MOST[what]);
      s.text(0, letter + "" + (MOST[what] + 1) + ";").due("egg(0) = -2000");
      s.text(0, letter + "999;").due("egg(0) = -2000");
      s.text(0, letter + "" + LEAST[what] + ";").due("egg(0) = 1", "set(" + what + ", " + LEAST[what] + ") = " + LEAST[what]);
      for (int below = 0; below < LEAST[what]; below++) {
        s.text(0, letter + "" + below + ";").due("egg(0) = -2000");
      }
      s.text(0, "a60;" + letter + "999;" + letter + "998;").due("egg(0) = -2004").end();
    }
    script("2: the first STATEMENT out of range").text(0, "n2;n13;y13;").due("egg(0) = -2003").text(0, "n13;n2;")
        .due("egg(0) = -2000").text(0, "b300;p30;i21;").due("egg(0) = -2009").end();
  }

  private static void eggKindOneFirst() {
    script("2: kind 1, else kind 2").text(0, "n1;x").due("egg(0) = -1003").text(0, "n1;y").due("egg(0) = -1004")
        .text(0, "n1;y3").due("egg(0) = -1005").text(0, "n1").due("egg(0) = -1002").text(0, "p0;n1;a100;y00;")
        .due("egg(0) = -1013").text(0, "p0;n1;a100;y0;").due("egg(0) = -2000").end();
  }

  private static void eggIsFresh() {
    script("2: without FAULT the EGG is FRESH").due("keep(1, 1, 1, 0) = 0", "go(1, 600) = 600").text(0, "a7;").due(
        "egg(0) = 1", "state(0) = 0", "state(1) = 300", "state(2) = 0", "state(3) = 0", "state(4) = 6", "state(5) = 50",
        "shell(0, 1) = 50", "shell(5, 0) = 50", "go(1, 1) = 1", "shell(5, 0) = 192").end();
    script("2: FRESH by the BOX of the text").text(0, "b300;").due("egg(0) = 1", "shell(5, 0) = 300", "shell(5, 1) = 300",
        "state(1) = 1800").end();
    script("2: more SHELLS are FRESH too").text(0, "n12;b9;").due("egg(0) = 2", "state(1) = 108", "shell(11, 1) = 9").end();
  }

  private static void eggFaultChangesNothing() {
    script("2: with a FAULT nothing comes").due("set(1, 12) = 3", "keep(1, 1, 1, 0) = 0", "image() = 0", "go(1, 300) = 300")
        .text(0, "n2;y1;b1;p1;a1;i21;").due("egg(0) = -2015").text(0, "n2;y1;b1;p1;a1;i1").due("egg(0) = -1017")
        .text(0, "n2;y1;b1;p1;a1;i1;.").due("egg(0) = -1018").text(0, "").due("egg(0) = -1000").due("state(0) = 300",
        "count(0) = 6", "count(1) = 6", "count(2) = 50", "count(3) = 10", "count(4) = 7", "count(5) = 3",
        "go(1, 1) = 301").end();
  }

  private static void setEach() {
    for (int what = 0; what < 6; what++) {
      String call = "set(" + what + ", ";
      script("3: the range of " + what).due("keep(1, 1, 1, 0) = 0", "go(1, 99) = 99")
          .outside(call + "%)", LEAST[what], MOST[what], "-1").due("state(0) = 99",
          call + LEAST[what] + ") = " + FIRST[what], call + (LEAST[what] + 1) + ") = " + LEAST[what],
          call + MOST[what] + ") = " + (LEAST[what] + 1), call + (MOST[what] - 1) + ") = " + MOST[what],
          call + FIRST[what] + ") = " + (MOST[what] - 1)).end();
    }
    script("3: Y is what it was, not the YOLK's SHELLS").due("set(0, 2) = 6", "set(1, 12) = 3", "count(1) = 2",
        "set(1, 11) = 12", "set(0, 12) = 2", "count(1) = 11").end();
  }

  private static void setWhat() {
    script("3: no such figure").due("keep(1, 1, 1, 0) = 0", "go(1, 5) = 5").outside("set(%, 5)", 0, 5, "-1")
        .outside("set(%, MIN)", 0, 5, "-1").outside("set(%, 2)", 0, 5, "-1").end();
  }

  private static void setIsFresh() {
    for (int what = 0; what < 6; what++) {
      script("3: the EGG is FRESH then, " + what).due("keep(1, 1, 1, 0) = 0", "go(1, 600) = 600",
          "set(" + what + ", " + FIRST[what] + ") = " + FIRST[what], "state(0) = 0", "state(1) = 300", "state(2) = 0",
          "state(3) = 0", "state(4) = 6", "state(5) = 50", "shell(5, 0) = 50", "shell(5, 1) = 50", "shell(5, 2) = 0",
          "go(1, 1) = 1", "shell(5, 0) = 192").end();
    }
    script("3: SHELLS that come again are FRESH").due("keep(1, 1, 1, 0) = 0", "set(0, 12) = 6", "go(1, 600) = 600",
        "set(0, 2) = 12", "shell(2, 0) = -1", "set(0, 12) = 2", "shell(11, 0) = 50", "shell(11, 1) = 50",
        "shell(11, 2) = 0").end();
    script("3: FRESH by the new BOX").due("set(2, 0) = 50", "state(1) = 0", "state(5) = 0", "set(2, 300) = 0",
        "state(1) = 1800", "state(5) = 300").end();
  }

  private static void shellPlaces() {
    for (int n = 2; n <= 12; n++) {
      Script s = script("4: of a SHELL, with " + n).due("set(0, " + n + ") = 6");
      for (int what = 0; what < 4; what++) {
        s.outside("shell(%, " + what + ")", 0, n - 1, "-1");
      }
      s.due("shell(0, 0) = 50", "shell(" + (n - 1) + ", 0) = 50", "shell(" + (n - 1) + ", 1) = 50",
          "shell(" + (n - 1) + ", 2) = 0", "shell(" + (n - 1) + ", 3) = " + (n > 3 ? 0 : 1)).end();
    }
  }

  private static void shellWhat() {
    script("4: what is told of a SHELL").text(0, "n2;y1;b300;p30;").due("egg(0) = 4", "keep(1, 1, 1, 0) = 0",
        "go(1, 2) = 2", "keep(1, 1, 5, 0) = 0", "go(1, 1) = 3", "shell(0, 0) = 533", "shell(0, 1) = 533",
        "shell(0, 2) = 0", "shell(0, 3) = 1", "shell(1, 0) = 273", "shell(1, 1) = 647", "shell(1, 2) = 3",
        "shell(1, 3) = 0").outside("shell(0, %)", 0, 3, "-1").outside("shell(1, %)", 0, 3, "-1").end();
  }

  private static void fresh() {
    for (int n = 2; n <= 12; n += 5) {
      script("5: how many SHELLS").due("set(0, " + n + ") = 6", "set(2, 11) = 50", "set(1, 12) = 3", "set(3, 30) = 10",
          "set(4, 1) = 7", "set(5, 2) = 3", "keep(1, 1, 1, 0) = 0", "go(1, 600) = 600", "image() = 600",
          "fresh() = " + n, "state(0) = 0", "state(1) = " + 11 * n, "state(2) = 0", "state(3) = 0", "state(4) = " + n,
          "state(5) = 11", "count(0) = " + n, "set(1, 12) = 12", "count(2) = 11", "count(3) = 30", "count(4) = 1",
          "count(5) = 2", "pot(1, 0) = 1000", "restore() = 600", "fresh() = " + n, "fresh() = " + n).end();
    }
  }
}
