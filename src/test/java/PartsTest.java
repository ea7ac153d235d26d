/** Promises 4 and 5: set and get. */
public final class PartsTest {
  public static void main(String[] args) {
    everyPartIsItsOwn();
    valuesAreCut();
    othersAreRefused();
    Bench.finish();
  }

  private static void everyPartIsItsOwn() {
    Bench bench = new Bench("parts");
    for (int what = 0; what < 28; what++) {
      bench.set(what, what % 4);
    }
    for (int what = 0; what < 28; what++) {
      bench.has(what, what % 4);
    }
  }

  private static void valuesAreCut() {
    Bench bench = new Bench("cut values");
    bench.set(0, Integer.MIN_VALUE).has(0, Integer.MIN_VALUE).set(15, -1).has(15, -1);
    bench.set(Bench.ADDRESS, -1).has(Bench.ADDRESS, 65535);
    bench.set(Bench.ADDRESS, 65536).has(Bench.ADDRESS, 0);
    bench.set(Bench.KEY, -1).has(Bench.KEY, 15).set(Bench.KEY, 16).has(Bench.KEY, 0);
    bench.set(Bench.MASK, -1).has(Bench.MASK, 31).set(Bench.MASK, 32).has(Bench.MASK, 0);
    bench.set(Bench.CC, -1).has(Bench.CC, 3).set(Bench.CC, 4).has(Bench.CC, 0);
    for (int block = 0; block < 8; block++) {
      bench.set(Bench.BLOCK + block, -1).has(Bench.BLOCK + block, 15);
      bench.set(Bench.BLOCK + block, 16).has(Bench.BLOCK + block, 0);
    }
  }

  private static void othersAreRefused() {
    Bench bench = new Bench("no such part");
    int[] wrong = {-1, -16, 28, 29, 100, Integer.MIN_VALUE, Integer.MAX_VALUE};
    for (int what : wrong) {
      bench.due("set(" + what + ")", bench.frame.set(what, 1), false);
      bench.has(what, -1);
    }
    for (int what = 0; what < 28; what++) {
      bench.has(what, 0);
    }
  }
}
