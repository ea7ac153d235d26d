import java.math.BigInteger;
import java.util.Random;

/** Promise 8, packed numbers: told cases, and many drawn ones against whole numbers of any size. */
public final class PackedTest {
  private static final int FIRST = 0x500;
  private static final int SECOND = 0x540;

  public static void main(String[] args) {
    toldCases();
    signs();
    wrongData();
    overflow();
    overlaps();
    drawnCases();
    Bench.finish();
  }

  private static Bench with(String title, String first, String second) {
    return new Bench(title).put(FIRST, first).put(SECOND, second).set(1, FIRST).set(2, SECOND)
        .set(Bench.CC, 3);
  }

  private static void toldCases() {
    with("F8", "EEEEEEEE", "123D").fine("F831 1000 2000").bytes(FIRST, "0000123D00").cc(1);
    with("F8 looks not at the first", "FFFF", "005F").fine("F811 1000 2000").bytes(FIRST, "005C").cc(2);
    with("F8 of negative 0", "EEEE", "000D").fine("F811 1000 2000").bytes(FIRST, "000C").cc(0);
    with("F8 to fewer bytes", "EEEE", "0000123C").fine("F813 1000 2000").bytes(FIRST, "123C").cc(2);
    with("FA", "123C", "1D").fine("FA10 1000 2000").bytes(FIRST, "122C").bytes(SECOND, "1D").cc(2);
    with("FA to 0", "123D", "123F").fine("FA11 1000 2000").bytes(FIRST, "000C").cc(0);
    with("FA with carry", "099C", "1A").fine("FA10 1000 2000").bytes(FIRST, "100C").cc(2);
    with("FB", "00123C", "00124C").fine("FB22 1000 2000").bytes(FIRST, "00001D").cc(1);
    with("FB of a negative", "5D", "7B").fine("FB00 1000 2000").bytes(FIRST, "2C").cc(2);
    with("FB of negative 0", "0D", "0D").fine("FB00 1000 2000").bytes(FIRST, "0C").cc(0);
    with("F9 equal", "00123C", "123F").fine("F921 1000 2000").cc(0).bytes(FIRST, "00123C");
    with("F9 less", "00123D", "123F").fine("F921 1000 2000").cc(1);
    with("F9 both negative", "00123D", "124D").fine("F921 1000 2000").cc(2);
    with("F9 of zeros", "0D", "0C").fine("F900 1000 2000").cc(0);
  }

  private static void signs() {
    String[] positive = {"A", "C", "E", "F"};
    String[] negative = {"B", "D"};
    for (String sign : positive) {
      with("positive " + sign, "EE", "7" + sign).fine("F800 1000 2000").bytes(FIRST, "7C").cc(2);
    }
    for (String sign : negative) {
      with("negative " + sign, "EE", "7" + sign).fine("F800 1000 2000").bytes(FIRST, "7D").cc(1);
    }
    for (int sign = 0; sign < 10; sign++) {
      with("no sign " + sign, "1C", "7" + sign).fault("F800 1000 2000", 7).bytes(FIRST, "1C");
      with("no sign " + sign, "7" + sign, "1C").fault("FA00 1000 2000", 7).bytes(FIRST, "7" + sign);
    }
  }

  private static void wrongData() {
    for (char digit = 'A'; digit <= 'F'; digit++) {
      String[] wrong = {digit + "0000C", "0" + digit + "000C", "0000" + digit + "C"};
      for (String number : wrong) {
        with("FA first " + number, number, "1C").fault("FA20 1000 2000", 7).bytes(FIRST, number);
        with("FB second " + number, "1C", number).fault("FB02 1000 2000", 7).bytes(FIRST, "1C");
        with("F9 first " + number, number, "1C").fault("F920 1000 2000", 7).word(40, 0x00030007);
        with("F9 second " + number, "1C", number).fault("F902 1000 2000", 7);
        with("F8 second " + number, "1C", number).fault("F802 1000 2000", 7).bytes(FIRST, "1C");
      }
    }
  }

  private static void overflow() {
    with("F8 cuts", "EEEE", "12345D").set(Bench.CC, 1).fine("F812 1000 2000").bytes(FIRST, "345D").cc(3);
    with("F8 cuts to 0", "EEEE", "12000D").fine("F812 1000 2000").bytes(FIRST, "000C").cc(3);
    with("F8 interrupts", "EEEE", "12345D").set(Bench.CC, 1).set(Bench.MASK, 16).fault("F812 1000 2000", 10)
        .bytes(FIRST, "345D").word(40, 0x1003000A).cc(0);
    with("FA cuts", "999C", "1C").fine("FA10 1000 2000").bytes(FIRST, "000C").cc(3);
    with("FA cuts a negative", "999D", "1D").fine("FA10 1000 2000").bytes(FIRST, "000C").cc(3);
    with("FA masked otherwise", "999C", "2C").set(Bench.MASK, 11).fine("FA10 1000 2000")
        .bytes(FIRST, "001C").cc(3);
    with("FA interrupts", "999C", "2C").set(Bench.MASK, 16).fault("FA10 1000 2000", 10)
        .bytes(FIRST, "001C");
    with("FB by a longer one", "5C", "01000C").fine("FB02 1000 2000")
        .bytes(FIRST, "5D").cc(3);
    String nines = "9".repeat(31);
    with("32 digits", nines + "D", nines + "D").fine("FAFF 1000 2000")
        .bytes(FIRST, "9".repeat(30) + "8D").cc(3);
    with("31 digits away", nines + "D", nines + "D").fine("FBFF 1000 2000")
        .bytes(FIRST, "0".repeat(31) + "C").cc(0);
  }

  private static void overlaps() {
    with("FA to itself", "123C", "00").fine("FA11 1000 1000").bytes(FIRST, "246C").cc(2);
    with("FB from itself", "123D", "00").fine("FB11 1000 1000").bytes(FIRST, "000C").cc(0);
    with("F8 over its source", "0000123D", "00").fine("F832 1000 1001").bytes(FIRST, "0000123D");
    with("F8 to the left", "00456C", "00").fine("F811 1000 1001").bytes(FIRST, "456C6C");
    with("FA with its tail", "12345C", "00").fine("FA20 1000 1002").bytes(FIRST, "12350C");
  }

  private static void drawnCases() {
    Random random = new Random(20261116);
    for (int k = 0; k < 4000; k++) {
      int one = 1 + random.nextInt(16);
      int two = 1 + random.nextInt(16);
      drawnCase(0xF8 + random.nextInt(4), drawn(random, one), drawn(random, two));
    }
  }

  /** A number of some bytes, often with zeros in front, so that sums fit now and then. */
  private static String drawn(Random random, int bytes) {
    int digits = 2 * bytes - 1;
    int zeros = random.nextInt(3) == 0 ? 0 : random.nextInt(digits + 1);
    StringBuilder text = new StringBuilder("0".repeat(zeros));
    while (text.length() < digits) {
      text.append(random.nextInt(4) == 0 ? 9 : random.nextInt(10));
    }
    return text.append("ABCDEF".charAt(random.nextInt(6))).toString();
  }

  private static BigInteger valueOf(String packed) {
    int last = packed.length() - 1;
    BigInteger digits = new BigInteger(packed.substring(0, last));
    return packed.charAt(last) == 'B' || packed.charAt(last) == 'D' ? digits.negate() : digits;
  }

  private static void drawnCase(int operation, String first, String second) {
    BigInteger one = valueOf(first);
    BigInteger two = valueOf(second);
    Bench bench = with(Integer.toHexString(operation) + " " + first + " " + second, first, second);
    bench.fine(String.format("%02X%01X%01X10002000", operation, first.length() / 2 - 1,
        second.length() / 2 - 1));
    if (operation == 0xF9) {
      bench.cc(codeOf(one.compareTo(two))).bytes(FIRST, first);
      return;
    }
    BigInteger result = operation == 0xF8 ? two : operation == 0xFA ? one.add(two) : one.subtract(two);
    BigInteger room = BigInteger.TEN.pow(first.length() - 1);
    BigInteger cut = result.remainder(room);
    StringBuilder stored = new StringBuilder(cut.abs().toString());
    stored.insert(0, "0".repeat(first.length() - 1 - stored.length()));
    bench.bytes(FIRST, stored + (cut.signum() < 0 ? "D" : "C"));
    bench.cc(cut.equals(result) ? codeOf(result.signum()) : 3);
  }

  private static int codeOf(int order) {
    return order == 0 ? 0 : order < 0 ? 1 : 2;
  }
}
