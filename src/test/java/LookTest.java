/** Promises 10 and 11: look and printed. */
public final class LookTest {
  public static void main(String[] args) {
    looks();
    noSuchThing();
    longLine();
    Bench.finish();
  }

  private static void looks() {
    Bench bench = new Bench("look").put(72, "00000300").put(0x300, "01000600 00000002");
    bench.put(80, "00000001").record("01").record("");
    bench.looks(0, 0).looks(1, 0).looks(2, 0).looks(3, 2).looks(4, 0).looks(5, 0).looks(6, 0).looks(7, 0);
    bench.fine("9C020000").looks(0, 1).looks(6, 1).moves(2, 2).looks(4, 1).looks(5, 1).looks(1, 0);
    bench.moves(1, 1).looks(0, 0).looks(1, 1).looks(5, 2).fine("1800").looks(2, 1).looks(6, 2);
    bench.fault("0000", 1).looks(7, 1).fault("58000001", 6).looks(7, 6).fine("1800").looks(7, 6);
    bench.looks(6, 5).looks(3, 2);
  }

  private static void noSuchThing() {
    Bench bench = new Bench("no such look");
    for (int what : new int[] {-1, 8, 9, 16, Integer.MIN_VALUE, Integer.MAX_VALUE}) {
      bench.looks(what, -1);
    }
    for (int k : new int[] {-1, 0, 1, 31, 32, Integer.MIN_VALUE, Integer.MAX_VALUE}) {
      bench.prints(k, -1);
    }
  }

  private static void longLine() {
    Bench bench = new Bench("line of 40").put(72, "00000300");
    bench.put(0x300, "01000600 40000028 01000610 00000001");
    for (int k = 0; k < 40; k++) {
      bench.put(0x600 + k, String.format("%02X", 0xF0 - k));
    }
    bench.fine("9C020000").moves(32, 32).looks(5, 31).prints(30, 0xF0 - 30).prints(31, -1);
    bench.moves(1, 1).prints(31, 0xF0 - 31).prints(32, -1).moves(8, 8).looks(5, 40).prints(-1, -1);
    for (int k = 0; k < 32; k++) {
      bench.prints(k, 0xF0 - k);
    }
    bench.prints(32, -1).prints(39, -1).prints(40, -1).prints(Integer.MAX_VALUE, -1);
    bench.moves(1, 1).looks(4, 2).looks(5, 0).prints(0, -1).prints(31, -1);
    bench.moves(1, 1).looks(5, 1).prints(0, 0xF0 - 16).prints(1, -1);
  }
}
