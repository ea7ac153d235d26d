/** Promise 8, instructions of two bytes. */
public final class RegisterTest {
  private static final int MIN = Integer.MIN_VALUE;
  private static final int MAX = Integer.MAX_VALUE;

  public static void main(String[] args) {
    moves();
    sums();
    comparisons();
    logic();
    products();
    quotients();
    branches();
    keys();
    Bench.finish();
  }

  private static Bench with(String title, int one, int two) {
    return new Bench(title).set(1, one).set(2, two).set(Bench.CC, 3);
  }

  private static void moves() {
    with("18", 5, -7).fine("1812").has(1, -7).has(2, -7).cc(3).has(Bench.ADDRESS, 1026);
    with("12 negative", 5, -7).fine("1212").has(1, -7).cc(1);
    with("12 zero", 5, 0).fine("1212").has(1, 0).cc(0);
    with("12 positive", 5, 9).fine("1212").has(1, 9).cc(2);
    with("12 of itself", MIN, 0).fine("1211").has(1, MIN).cc(1);
  }

  private static void sums() {
    with("1A", 5, 7).fine("1A12").has(1, 12).has(2, 7).cc(2);
    with("1A zero", 5, -5).fine("1A12").has(1, 0).cc(0);
    with("1A negative", -5, -5).fine("1A12").has(1, -10).cc(1);
    with("1A wraps", MAX, 1).set(Bench.CC, 1).fine("1A12").has(1, MIN).cc(3);
    with("1A wraps to 0", MIN, MIN).fine("1A12").has(1, 0).cc(3);
    with("1A masked otherwise", MAX, 1).set(Bench.MASK, 23).fine("1A12").has(1, MIN).cc(3);
    with("1A interrupts", MAX, 1).set(Bench.CC, 1).set(Bench.MASK, 8).fault("1A12", 8).has(1, MIN)
        .word(40, 0x08030008).has(Bench.MASK, 0).cc(0);
    with("1A right with the mask", MAX, -1).set(Bench.MASK, 8).fine("1A12").has(1, MAX - 1).cc(2);
    with("1B", 5, 7).fine("1B12").has(1, -2).cc(1);
    with("1B wraps", MIN, 1).fine("1B12").has(1, MAX).cc(3);
    with("1B of itself", MIN, 1).fine("1B11").has(1, 0).cc(0);
    with("1B of the least", 0, MIN).fine("1B12").has(1, MIN).cc(3);
    with("1B interrupts", MIN, 1).set(Bench.MASK, 8).fault("1B12", 8).has(1, MAX);
  }

  private static void comparisons() {
    with("19 equal", -7, -7).fine("1912").cc(0);
    with("19 less", MIN, MAX).fine("1912").cc(1).has(1, MIN).has(2, MAX);
    with("19 greater", MAX, MIN).fine("1912").cc(2);
  }

  private static void logic() {
    with("14", 12, 10).fine("1412").has(1, 8).has(2, 10).cc(1);
    with("14 zero", 12, 3).fine("1412").has(1, 0).cc(0);
    with("16", MIN, 3).fine("1612").has(1, MIN + 3).cc(1);
    with("16 zero", 0, 0).fine("1612").has(1, 0).cc(0);
    with("17", 12, 10).fine("1712").has(1, 6).cc(1);
    with("17 of itself", 12, 10).fine("1711").has(1, 0).cc(0);
  }

  private static void products() {
    Bench bench = new Bench("1C");
    bench.set(4, 99).set(5, -3).set(7, 1 << 30).set(Bench.CC, 2);
    bench.fine("1C47").has(4, -1).has(5, 1 << 30).has(7, 1 << 30).cc(2);
    bench.set(4, 6).set(5, 7).fine("1C44").has(4, 0).has(5, 42);
    bench.set(5, MIN).fine("1C45").has(4, 1 << 30).has(5, 0);
    bench.set(14, 1).set(15, -1).fine("1CEF").has(14, 0).has(15, 1);
    bench.fault("1C57", 6).has(5, 0).has(7, 1 << 30);
  }

  private static void quotients() {
    Bench bench = new Bench("1D");
    bench.set(4, -1).set(5, -17).set(7, 5).set(Bench.CC, 2);
    bench.fine("1D47").has(4, -2).has(5, -3).cc(2);
    bench.set(4, 0).set(5, 17).set(7, -5).fine("1D47").has(4, 2).has(5, -3);
    bench.set(4, -1).set(5, -17).set(7, -5).fine("1D47").has(4, -2).has(5, 3);
    bench.set(4, 0).set(5, -1).set(7, 2).fine("1D47").has(4, 1).has(5, MAX);
    bench.set(4, 1).set(5, 0).set(7, 2).fault("1D47", 9).has(4, 1).has(5, 0);
    bench.set(4, -1).set(5, 0).set(7, 2).fine("1D47").has(4, 0).has(5, MIN);
    bench.set(4, -1).set(5, MIN).set(7, -1).fault("1D47", 9).has(4, -1).has(5, MIN);
    bench.set(4, MIN).set(5, 0).set(7, -1).fault("1D47", 9).has(4, MIN).has(5, 0);
    bench.set(7, 0).fault("1D47", 9);
    bench.fault("1D57", 6);
    bench.set(4, 0).set(5, 9).fine("1D45").has(4, 0).has(5, 1);
  }

  private static void branches() {
    for (int r = 0; r < 16; r++) {
      for (int cc = 0; cc < 4; cc++) {
        String half = Integer.toHexString(r);
        int taken = (r & 8 >> cc) != 0 ? 0x234 : 1026;
        new Bench("07 " + r + " " + cc).set(3, 0x10234).set(Bench.CC, cc)
            .fine("07" + half + "3").has(Bench.ADDRESS, taken).cc(cc);
      }
    }
    new Bench("07 of 0").set(0, 0x234).fine("07F0").has(Bench.ADDRESS, 1026);
    new Bench("05").set(3, 0xFFFF0234).fine("0513").has(1, 1026).has(Bench.ADDRESS, 0x234);
    new Bench("05 of 0").set(0, 0x234).fine("0510").has(1, 1026).has(Bench.ADDRESS, 1026);
    new Bench("05 of the same").set(3, 0x234).fine("0533").has(3, 1026).has(Bench.ADDRESS, 0x234);
  }

  private static void keys() {
    Bench bench = new Bench("08 and 09").set(Bench.CC, 3);
    bench.set(1, 0x12345678).set(2, 0xFFFFFDFF).fine("0812").has(Bench.BLOCK + 5, 7);
    bench.set(2, 2048 + 256).fine("0812").has(Bench.BLOCK + 1, 7).has(Bench.BLOCK, 0);
    bench.set(Bench.BLOCK + 2, 15).set(2, 0x200).fine("0912").has(1, 0x123456F0).cc(3);
    bench.set(2, 0).fine("0912").has(1, 0x12345600);
    bench.set(2, 0x2AB).fine("0922").has(2, 0x2F0);
    bench.set(Bench.MASK, 4).fault("0812", 2).set(Bench.MASK, 4).fault("0912", 2).has(1, 0x12345600);
  }
}
