/** Promises 6 and 7: punch and card; what was punched is seen where the channel reads it. */
public final class RecordsTest {
  public static void main(String[] args) {
    punchPutsTheHighestFirst();
    punchIsRefused();
    eightRecordsWait();
    recordsComeInTheirOrder();
    Bench.finish();
  }

  /** Reads one record to 1536, whatever its length. */
  private static Bench read(Bench bench) {
    bench.put(72, "00000300").put(0x300, "02000600 20000020");
    bench.fine("9C010000").cc(0);
    bench.frame.channel(50);
    return bench.looks(0, 0);
  }

  private static void punchPutsTheHighestFirst() {
    for (int n = 1; n <= 8; n++) {
      Bench bench = new Bench("punch of " + n);
      bench.due("punch", bench.frame.punch(0x0123456789ABCDEFL, n), true);
      bench.due("punch", bench.frame.punch(0xFF77L, 1), true);
      bench.due("card", bench.frame.card(), true);
      read(bench).bytes(1536, "0123456789ABCDEF".substring(16 - 2 * n) + "77" + "00");
    }
  }

  private static void punchIsRefused() {
    Bench bench = new Bench("punch refused");
    int[] wrong = {0, 9, -1, Integer.MIN_VALUE, Integer.MAX_VALUE};
    for (int n : wrong) {
      bench.due("punch of " + n, bench.frame.punch(-1L, n), false);
    }
    bench.due("first eight", bench.frame.punch(0x0102030405060708L, 8), true);
    bench.due("five", bench.frame.punch(0x090A0B0C0DL, 5), true);
    bench.due("four too many", bench.frame.punch(-1L, 4), false);
    bench.due("eight too many", bench.frame.punch(-1L, 8), false);
    bench.due("three fill it", bench.frame.punch(0x0E0F10L, 3), true);
    bench.due("seventeenth", bench.frame.punch(-1L, 1), false);
    bench.due("card", bench.frame.card(), true);
    bench.due("a new one has room", bench.frame.punch(0x55L, 8), true);
    read(bench).bytes(1536, "0102030405060708090A0B0C0D0E0F10 00");
  }

  private static void eightRecordsWait() {
    Bench bench = new Bench("eight wait");
    for (int k = 0; k < 8; k++) {
      bench.looks(3, k).due("card", bench.frame.card(), true);
    }
    bench.due("punch while eight wait", bench.frame.punch(0xABL, 1), true);
    bench.due("ninth", bench.frame.card(), false).looks(3, 8);
    read(bench).looks(3, 7);
    bench.due("the refused one is still there", bench.frame.card(), true).looks(3, 8);
    bench.due("ninth again", bench.frame.card(), false);
    for (int k = 7; k >= 0; k--) {
      bench.fine("9D010000").cc(1);
      read(bench).looks(3, k);
    }
    bench.bytes(1536, "AB00");
  }

  private static void recordsComeInTheirOrder() {
    Bench eight = new Bench("eight in a row");
    for (int k = 1; k <= 8; k++) {
      eight.record("1" + k);
    }
    for (int k = 1; k <= 8; k++) {
      read(eight).bytes(1536, "1" + k).fine("9D000000");
    }
    Bench bench = new Bench("order of records");
    for (int k = 1; k <= 9; k++) {
      bench.record("0" + k + "AA").record("0" + k + "BB").looks(3, 2);
      read(bench).bytes(1536, "0" + k + "AA").fine("9D000000");
      read(bench).bytes(1536, "0" + k + "BB").fine("9D000000").looks(3, 0);
    }
  }
}
