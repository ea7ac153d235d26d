/** Promise 8, interruptions and the timer. */
public final class InterruptionTest {
  public static void main(String[] args) {
    supervisor();
    program();
    timer();
    channelInterruption();
    externalGoesFirst();
    counts();
    Bench.finish();
  }

  private static void supervisor() {
    Bench bench = new Bench("0A").set(Bench.MASK, 20).set(Bench.KEY, 9).set(Bench.CC, 3);
    bench.put(32, "FFFFFFFFFFFFFFFF").put(96, "FF FE 1234 5678 9ABC");
    bench.set(Bench.BLOCK, 1).fine("0AFE").bytes(32, "14 93 00FE 0000 0402");
    bench.has(Bench.MASK, 31).has(Bench.KEY, 15).cc(2).has(Bench.ADDRESS, 0x9ABC);
    bench.bytes(96, "FFFE123456789ABC").looks(7, 0);
  }

  private static void program() {
    Bench bench = new Bench("PROGRAM").set(Bench.KEY, 9).set(Bench.CC, 1).set(Bench.BLOCK, 2);
    bench.put(40, "FFFFFFFFFFFFFFFF").put(104, "04 30 0000 0000 0500").fault("0000", 1);
    bench.bytes(40, "00 91 0001 0000 0402").has(Bench.MASK, 4).has(Bench.KEY, 3).cc(0);
    bench.has(Bench.ADDRESS, 0x500).steps(3, 3).looks(7, 1).word(44, 0x502);
  }

  private static Bench looping(String title) {
    return new Bench(title).put(0x400, "47F00400").set(Bench.ADDRESS, 0x400);
  }

  private static void timer() {
    Bench bench = looping("timer").put(80, "00000002").set(Bench.BLOCK, 5).set(Bench.KEY, 3);
    bench.steps(1, 0).word(80, 1).looks(2, 0).steps(1, 0).word(80, 0).looks(2, 0);
    bench.steps(1, 0).word(80, -1).looks(2, 1).steps(1, 0).word(80, -2).looks(2, 1);
    bench.put(88, "00 12 0000 0000 0600").put(0x600, "1800").set(Bench.MASK, 1);
    bench.steps(1, 0).looks(2, 0).word(80, -2).bytes(24, "01 30 0080 0000 0400");
    bench.has(Bench.ADDRESS, 0x600).has(Bench.KEY, 1).cc(2).has(Bench.MASK, 0).looks(6, 5);
    bench.steps(1, 0).word(80, -3).has(Bench.ADDRESS, 0x602).looks(2, 0);
    Bench wraps = looping("timer wraps").put(80, "80000000").steps(1, 0).word(80, 0x7FFFFFFF);
    wraps.looks(2, 0);
    Bench other = looping("other masks").put(80, "00000000").set(Bench.MASK, 30).steps(3, 0);
    other.looks(2, 1).word(80, -3);
    Bench faulty = new Bench("timer goes with a fault").put(80, "00000000").set(Bench.ADDRESS, 0x500);
    faulty.steps(1, 1).word(80, -1).looks(2, 1);
    Bench stored = new Bench("timer as an operand").put(80, "00000009").fine("58100050").has(1, 8);
    stored.word(80, 8);
  }

  /** The channel has ended, with the device's code to be taken. */
  private static Bench ended(String title, int device) {
    Bench bench = new Bench(title).put(72, "00000001").put(80, "00000064");
    bench.fine("9C0" + device + "0000").moves(1, 1);
    return bench.looks(1, 1).put(120, "00 70 0000 0000 0600").put(0x400, "47F00400")
        .set(Bench.ADDRESS, 0x400).set(Bench.CC, 1);
  }

  private static void channelInterruption() {
    for (int device = 1; device <= 2; device++) {
      Bench bench = ended("CHANNEL " + device, device).set(Bench.MASK, 29).steps(1, 0).looks(1, 1);
      bench.set(Bench.MASK, 2).word(80, 98).steps(1, 0).looks(1, 0).word(80, 98);
      bench.bytes(56, "02 01 000" + device + " 0000 0400").has(Bench.ADDRESS, 0x600);
      bench.has(Bench.KEY, 7).has(Bench.MASK, 0).cc(0).looks(6, 3);
    }
  }

  private static void externalGoesFirst() {
    Bench bench = ended("both wait", 1).put(80, "00000000").steps(1, 0).looks(2, 1).looks(1, 1);
    bench.put(88, "03 00 0000 0000 0500").set(Bench.MASK, 3).steps(1, 0);
    bench.looks(2, 0).looks(1, 1).has(Bench.ADDRESS, 0x500).steps(1, 0);
    bench.looks(1, 0).has(Bench.ADDRESS, 0x600).word(60, 0x500).word(80, -1);
    Bench only = ended("one allowed", 2).put(80, "00000000").steps(1, 0).set(Bench.MASK, 2).steps(1, 0);
    only.looks(2, 1).looks(1, 0).has(Bench.ADDRESS, 0x600);
  }

  private static void counts() {
    Bench bench = new Bench("step").put(104, "00 00 0000 0000 0500").put(0x500, "1800 0000");
    bench.set(Bench.ADDRESS, 0x500);
    int[] wrong = {0, -1, 51, Integer.MIN_VALUE, Integer.MAX_VALUE};
    for (int n : wrong) {
      bench.steps(n, -1);
    }
    bench.looks(6, 0).has(Bench.ADDRESS, 0x500).word(80, 0).word(40, 0);
    bench.steps(50, 25).looks(6, 50).word(80, -50).steps(1, 0).steps(1, 1).looks(6, 52);
  }
}
