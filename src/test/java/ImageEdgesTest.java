/** Promises 22 to 24, sentence by sentence: the edges and the refusals of each. */
public final class ImageEdgesTest {
  private static final Check check = new Check("ImageEdgesTest");

  public static void main(String[] args) {
    imageSecond();
    restoreOfNone();
    restoreAll();
    restoreAgain();
    newerImage();
    shelvesAreNotInIt();
    countWhat();
    countYolk();
    check.end();
  }

  private static Script script(String sentence) {
    return new Script(check, sentence);
  }

  private static void imageSecond() {
    Script s = script("22: the SECOND").due("image() = 0", "keep(1, 1, 1, 0) = 0", "go(1, 1) = 1", "image() = 1");
    for (int i = 1; i <= 16; i++) {
      s.due("go(1, 600) = " + (600 * i + 1));
    }
    s.due("go(1, 398) = 9999", "image() = 9999", "fresh() = 6", "restore() = 9999", "go(1, 1) = -2").end();
  }

  private static void restoreOfNone() {
    script("23: -3: there is none").due("restore() = -3", "keep(1, 1, 1, 0) = 0", "go(1, 600) = 600", "restore() = -3",
        "set(0, 2) = 6", "restore() = -3", "fresh() = 2", "restore() = -3").text(0, "n9;").due("egg(0) = 1",
        "restore() = -3", "image() = 0", "restore() = 0").end();
  }

  private static void restoreAll() {
    PlainEgg egg = new PlainEgg();
    egg.shells = 2;
    egg.y = 12;
    egg.box = 300;
    egg.pass = 30;
    egg.fresh();
    egg.seconds(1, 0, 60);
    String sets = "state(2) = " + (egg.set[0] + egg.set[1]);
    String green = "state(3) = " + egg.green;
    script("23: RESTORED all is as it was then").text(0, "n2;y12;b300;p30;a60;i20;").due("egg(0) = 6", "keep(1, 1, 1, 0) = 0",
        "keep(2, 1, 5, 0) = 0", "go(1, 60) = 60", sets, green, "image() = 60").text(0,
        "n12;y1;b0;p1;a0;i0;").due("egg(0) = 6", "go(1, 30) = 30", "restore() = 60", "count(0) = 2", "count(1) = 2",
        "count(2) = 300", "count(3) = 30", "count(4) = 60", "count(5) = 20", "state(0) = 60", sets, green,
        "go(2, 10) = 70", "restore() = 60", "set(1, 12) = 12", "state(0) = 0", "restore() = 60",
        "shell(2, 0) = -1").end();
  }

  private static void restoreAgain() {
    script("23: THE IMAGE stays").due("keep(1, 1, 1, 0) = 0", "go(1, 100) = 100", "image() = 100", "restore() = 100",
        "go(1, 5) = 105", "restore() = 100", "restore() = 100", "go(1, 600) = 700", "restore() = 100", "go(1, 1) = 101").end();
    EggMinute x = new EggMinute();
    EggMinute straight = new EggMinute();
    x.keep(1, 1, 1, 0);
    straight.keep(1, 1, 1, 0);
    x.go(1, 100);
    x.image();
    x.go(1, 200);
    x.restore();
    x.go(1, 50);
    straight.go(1, 150);
    for (int i = 0; i < 6; i++) {
      for (int what = 0; what < 4; what++) {
        check.due("23: it goes on as if nothing had been", x.shell(i, what), straight.shell(i, what));
      }
    }
    check.due("23: GREEN goes on", x.state(3), straight.state(3));
  }

  private static void newerImage() {
    script("22: a newer one is in the place of the older").due("keep(1, 1, 1, 0) = 0", "go(1, 10) = 10", "image() = 10",
        "go(1, 10) = 20", "image() = 20", "restore() = 20", "fresh() = 6", "image() = 0", "go(1, 9) = 9", "restore() = 0",
        "shell(5, 1) = 50").end();
  }

  private static void shelvesAreNotInIt() {
    script("22: but SHELVES").due("keep(1, 1, 1, 0) = 0", "row(2, 1, 2) = 0", "put(2, 0, 5) = 0", "image() = 0",
        "keep(1, 1, 3, 60) = 0", "put(2, 0, 6) = 0", "row(3, 0, 1) = 0", "restore() = 0", "weight(1) = 180",
        "element(2, 0) = 6", "element(3, 0) = 0", "keep(1, 0, 0, 0) = 0", "keep(2, 0, 0, 0) = 0", "restore() = 0",
        "weight(1) = -1000000011", "put(2, 0, 1) = -11", "element(3, 0) = 0").end();
  }

  private static void countWhat() {
    script("24: -1 for others").outside("count(%)", 0, 5, "-1").due("count(0) = 6", "count(1) = 3", "count(2) = 50",
        "count(3) = 10", "count(4) = 7", "count(5) = 3", "set(0, 12) = 6", "set(1, 12) = 3", "set(2, 300) = 50",
        "set(3, 30) = 10", "set(4, 60) = 7", "set(5, 20) = 3", "count(0) = 12", "count(1) = 12", "count(2) = 300",
        "count(3) = 30", "count(4) = 60", "count(5) = 20", "set(0, 2) = 12", "set(1, 0) = 12", "set(2, 0) = 300",
        "set(3, 1) = 30", "set(4, 0) = 60", "set(5, 0) = 20", "count(0) = 2", "count(1) = 0", "count(2) = 0",
        "count(3) = 1", "count(4) = 0", "count(5) = 0").end();
  }

  private static void countYolk() {
    script("24: YOLK ones (all, if Y is more)").due("set(0, 4) = 6", "set(1, 4) = 3", "count(1) = 4", "set(1, 5) = 4",
        "count(1) = 4", "set(1, 12) = 5", "count(1) = 4", "set(1, 3) = 12", "count(1) = 3", "set(1, 0) = 3", "count(1) = 0")
        .end();
  }
}
