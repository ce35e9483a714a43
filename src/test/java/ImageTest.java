/** Promises 22 to 24: image, restore, count. */
public final class ImageTest {
  private static final Check check = new Check("ImageTest");

  public static void main(String[] args) {
    imageAndRestore();
    allComesBack();
    shelvesStay();
    counts();
    check.end();
  }

  private static void imageAndRestore() {
    EggMinute x = new EggMinute();
    check.due("restore of none", x.restore(), -3);
    x.keep(1, 1, 1, 0);
    x.go(1, 40);
    check.due("restore of none changes nothing", x.restore(), -3);
    check.due("the second is as it was", x.state(0), 40);
    check.due("image", x.image(), 40);
    x.go(1, 10);
    check.due("restore", x.restore(), 40);
    check.due("restored second", x.state(0), 40);
    x.go(1, 20);
    check.due("restore again", x.restore(), 40);
    x.go(1, 20);
    check.due("another image", x.image(), 60);
    x.fresh();
    check.due("the newer one", x.restore(), 60);
  }

  private static long[] lookedAt(EggMinute x) {
    long[] all = new long[6 + 6 + 4 * 12];
    for (int what = 0; what < 6; what++) {
      all[what] = x.count(what);
      all[6 + what] = x.state(what);
    }
    for (int i = 0; i < 12; i++) {
      for (int what = 0; what < 4; what++) {
        all[12 + 4 * i + what] = x.shell(i, what);
      }
    }
    return all;
  }

  private static void allComesBack() {
    EggMinute x = Check.eggOf("n9;y12;b120;p21;a31;i13;");
    x.keep(1, 1, 1, 0);
    x.keep(2, 1, 5, 1);
    x.go(1, 120);
    x.go(2, 25);
    long[] then = lookedAt(x);
    check.due("image", x.image(), 145);
    x.go(1, 300);
    Check.text(x, 0, "n12;y1;b1;p1;a1;i1;");
    x.egg(0);
    x.go(1, 77);
    check.due("restore", x.restore(), 145);
    long[] now = lookedAt(x);
    for (int i = 0; i < then.length; i++) {
      check.due("restored, number " + i, now[i], then[i]);
    }
    check.due("Y comes back whole", x.set(1, 12), 12);
    x.restore();
    x.go(1, 300);
    EggMinute same = Check.eggOf("n9;y12;b120;p21;a31;i13;");
    same.keep(1, 1, 1, 0);
    same.keep(2, 1, 5, 1);
    same.go(1, 120);
    same.go(2, 25);
    same.go(1, 300);
    for (int what = 0; what < 6; what++) {
      check.due("it goes on alike, state(" + what + ")", x.state(what), same.state(what));
    }
    check.due("the image isn't touched by going on", x.restore(), 145);
    long[] again = lookedAt(x);
    for (int i = 0; i < then.length; i++) {
      check.due("restored again, number " + i, again[i], then[i]);
    }
  }

  private static void shelvesStay() {
    EggMinute x = new EggMinute();
    x.keep(1, 1, 1, 0);
    x.row(2, 0, 2);
    x.put(2, 0, 5);
    x.image();
    x.keep(1, 1, 3, 9);
    x.put(2, 0, 6);
    x.row(3, 0, 1);
    x.restore();
    check.due("a shelf's doing isn't restored", x.weight(1), 27);
    check.due("a row's element isn't restored", x.element(2, 0), 6);
    check.due("a shelf isn't emptied", x.element(3, 0), 0);
  }

  private static void counts() {
    EggMinute x = Check.eggOf("n4;y2;b30;p11;a12;i13;");
    int[] due = {4, 2, 30, 11, 12, 13};
    for (int what = 0; what < 6; what++) {
      check.due("count(" + what + ")", x.count(what), due[what]);
    }
    check.due("count(-1)", x.count(-1), -1);
    check.due("count(6)", x.count(6), -1);
    for (int y = 0; y <= 12; y++) {
      x.set(1, y);
      check.due("yolk shells of y" + y, x.count(1), Math.min(y, 4));
    }
    x.set(0, 12);
    check.due("Y is still 12", x.count(1), 12);
  }
}
