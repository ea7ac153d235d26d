/** Promises 2 and 3: load and word. */
public final class StorageTest {
  public static void main(String[] args) {
    loadPutsTheLowestBytes();
    loadIsRefused();
    wordIsTakenAnywhere();
    Bench.finish();
  }

  private static void loadPutsTheLowestBytes() {
    for (int n = 1; n <= 8; n++) {
      Bench bench = new Bench("load of " + n);
      bench.put(96, "EEEEEEEEEEEEEEEEEEEE");
      bench.due("load", bench.frame.load(97, 0x0123456789ABCDEFL, n), true);
      bench.bytes(97, "0123456789ABCDEF".substring(16 - 2 * n));
      bench.bytes(96, "EE").bytes(97 + n, "EE");
    }
    Bench bench = new Bench("load whatever the keys");
    bench.set(Bench.KEY, 3).set(Bench.BLOCK, 5).put(0, "AB").bytes(0, "AB");
    bench.due("negative number", bench.frame.load(2040, -2L, 8), true);
    bench.word(2040, -1).word(2044, -2);
    bench.due("first byte", bench.frame.load(0, 1L, 1), true);
    bench.due("last byte", bench.frame.load(2047, 255L, 1), true);
    bench.bytes(2047, "FF");
  }

  private static void loadIsRefused() {
    Bench bench = new Bench("load refused");
    bench.put(0, "11").put(2047, "22");
    int[][] wrong = {
      {0, 0}, {0, 9}, {0, -1}, {0, Integer.MIN_VALUE}, {0, Integer.MAX_VALUE},
      {-1, 1}, {-1, 2}, {-8, 8}, {2048, 1}, {2047, 2}, {2041, 8}, {2048, 0},
      {Integer.MAX_VALUE, 1}, {Integer.MAX_VALUE, 8}, {Integer.MIN_VALUE, 8},
    };
    for (int[] call : wrong) {
      bench.due("load(" + call[0] + ", " + call[1] + ")", bench.frame.load(call[0], -1L, call[1]), false);
    }
    bench.bytes(0, "1100").bytes(2046, "0022").word(2040, 0);
  }

  private static void wordIsTakenAnywhere() {
    Bench bench = new Bench("word");
    bench.put(0, "0102030405").put(2043, "A1A2A3A4A5");
    bench.word(0, 0x01020304).word(1, 0x02030405);
    bench.word(-1, 0x00010203).word(-2, 0x00000102).word(-3, 0x00000001).word(-4, 0);
    bench.word(2044, 0xA2A3A4A5).word(2045, 0xA3A4A500).word(2047, 0xA5000000).word(2048, 0);
    bench.word(Integer.MAX_VALUE, 0).word(Integer.MIN_VALUE, 0);
  }
}
