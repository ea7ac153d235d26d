/** Boundary cases of INSTRUCTIONS: RR, RX, RS, SI and rows of bytes; "says" as elsewhere. */
public final class InstructionSentencesTest {
  private static final int MIN = Integer.MIN_VALUE;
  private static final int MAX = Integer.MAX_VALUE;
  private static final int[] EDGES = {
    0, 1, -1, 2, -2, 32767, 32768, -32768, -32769, MAX, MAX - 1, MIN, MIN + 1,
  };

  public static void main(String[] args) {
    registerZeroCountsNothing();
    noIndexOutsideRx();
    lowest24Bits();
    lengthsOfRows();
    signOfResults();
    sums();
    sumsInterrupt();
    comparisons();
    logic();
    products();
    quotients();
    branchesByRegister();
    linksByRegister();
    supervisorCodes();
    keysAreSet();
    keysAreTaken();
    halfwordsWithSign();
    lowestByte();
    branches();
    countDown();
    packedToInt();
    intToPacked();
    lowest16Bits();
    shifts();
    shiftsAreNoPlaces();
    registersBehind15();
    logicOfBytes();
    comparisonOfBytes();
    testedBits();
    statusAtMultipleOf8();
    moveFromTheLeft();
    comparisonOfRows();
    translation();
    Bench.finish();
  }

  private static String hex(int word) {
    return String.format("%08X", word);
  }

  private static int signOf(long number) {
    return number == 0 ? 0 : number < 0 ? 1 : 2;
  }

  private static int orderOf(long one, long other) {
    return one == other ? 0 : one < other ? 1 : 2;
  }

  private static void registerZeroCountsNothing() {
    String says = "B's register (0 for B 0) + D, in RX + the register S (0 for S 0)";
    Bench bench = new Bench(says).set(0, 0x111).set(1, 0x2000).set(2, 0x30000);
    bench.fine("41300000").has(3, 0).fine("41300FFF").has(3, 0xFFF).fine("41301FFF").has(3, 0x2FFF);
    bench.fine("41310FFF").has(3, 0x2FFF).fine("41321FFF").has(3, 0x32FFF).fine("41311001").has(3, 0x4001);
    bench.fine("41000005").has(0, 5);
    new Bench(says + ": both of SS").set(1, 0x600).set(2, 0x680).put(0x600, "C1").fine("D200 2000 1000")
        .bytes(0x680, "C1");
  }

  private static void noIndexOutsideRx() {
    String says = "in RX + the register S (0 for S 0)";
    for (int s = 0; s < 16; s++) {
      String half = Integer.toHexString(s);
      allRegisters(says + ": RS " + s).fine("894" + half + "0001").has(4, 0x22);
      allRegisters(says + ": SI " + s).fine("920" + half + "0600").bytes(0x600, "0" + half).bytes(0x611, "00");
      allRegisters(says + ": SS " + s).put(0x600, "C1").fine("D20" + half + "0680 0600").bytes(0x680, "C100")
          .bytes(0x691, "00");
      allRegisters(says + ": RX " + s).put(0x600, "C1").put(0x611, "C2").fine("434" + half + "0600")
          .has(4, s == 0 ? 0xC1 : 0xC2);
    }
  }

  private static Bench allRegisters(String title) {
    Bench bench = new Bench(title);
    for (int k = 0; k < 16; k++) {
      bench.set(k, 0x11);
    }
    return bench;
  }

  private static void lowest24Bits() {
    String says = "of that the lowest 24 bits";
    Bench bench = new Bench(says).set(1, -1).set(2, 0x01000000).set(4, MIN).set(5, MAX);
    bench.fine("41301000").has(3, 0xFFFFFF).fine("41301001").has(3, 0).fine("41312002").has(3, 1);
    bench.fine("41302FFF").has(3, 0xFFF).fine("41344000").has(3, 0).fine("41355003").has(3, 1);
    bench.fine("41345000").has(3, 0xFFFFFF);
    new Bench(says + ": a place").set(1, 0x01000600).put(0x600, "C1").fine("43301000").has(3, 0xC1);
    new Bench(says + ": a place below 0").set(1, -0x100).put(0x600, "C1").fine("43301700").has(3, 0xC1);
    new Bench(says + ": of SI").set(1, 0xFF000600).fine("92C11000").bytes(0x600, "C1");
    new Bench(says + ": of SS").set(1, 0xFF000600).set(2, -0x10).put(0x500, "C1").fine("D200 1000 2510")
        .bytes(0x600, "C1");
  }

  private static void lengthsOfRows() {
    String says = "L: the second byte + 1; L1, L2: R + 1, S + 1";
    for (int length : new int[] {1, 2, 128, 255, 256}) {
      Bench bench = new Bench(says + ": " + length).put(0x600 + length - 1, "C2C3");
      bench.fine(String.format("D2%02X 0480 0600", length - 1)).bytes(0x480 + length - 1, "C200");
    }
    for (int length = 1; length <= 16; length++) {
      Bench bench = new Bench(says + ": packed " + length).put(0x5FF, "EE").put(0x600 + length, "EE");
      bench.put(0x680, "1C").fine(String.format("F8%X0 0600 0680", length - 1)).bytes(0x5FF, "EE");
      bench.bytes(0x600, "00".repeat(length - 1) + "1C EE");
      Bench second = new Bench(says + ": second " + length).put(0x680, "00".repeat(length - 1) + "5DEE");
      second.fine(String.format("F80%X 0600 0680", length - 1)).bytes(0x600, "5D");
    }
  }

  private static void signOfResults() {
    String says = "SIGN: CC 0 zero, 1 negative, 2 positive";
    for (int value : EDGES) {
      new Bench(says + ": 12 " + value).set(2, value).set(Bench.CC, 3).fine("1212").has(1, value)
          .cc(signOf(value));
      new Bench(says + ": 8A " + value).set(1, value).set(Bench.CC, 3).fine("8A100000").has(1, value)
          .cc(signOf(value));
    }
  }

  private static void sums() {
    String says = "SUM: CC as SIGN of the wrapped result, but 3 if it is not right";
    for (int one : EDGES) {
      for (int two : EDGES) {
        Bench bench = new Bench(says + ": " + one + " " + two).set(2, two).put(0x600, hex(two));
        sum(bench.set(1, one), "1A12", (long) one + two);
        sum(bench.set(1, one), "1B12", (long) one - two);
        sum(bench.set(1, one), "5A100600", (long) one + two);
        sum(bench.set(1, one), "5B100600", (long) one - two);
        sum(bench.set(1, one), "4A100602", (long) one + (short) two);
      }
    }
  }

  private static void sum(Bench bench, String code, long exact) {
    int wrapped = (int) exact;
    bench.set(Bench.MASK, 0).fine(code).has(1, wrapped).cc(wrapped == exact ? signOf(wrapped) : 3);
  }

  private static void sumsInterrupt() {
    String says = "then, if the MASK says so, OVERFLOW (the result is there)";
    String[] adding = {"1A12", "5A100600"};
    for (String code : adding) {
      Bench bench = new Bench(says + ": " + code).set(1, MAX).set(2, 1).put(0x600, hex(1));
      bench.set(Bench.MASK, 23).fine(code).has(1, MIN).cc(3).set(1, MAX).set(Bench.MASK, 8);
      bench.fault(code, 8).has(1, MIN).word(40, 0x08030008);
      bench.set(1, MAX - 1).set(Bench.MASK, 8).fine(code).has(1, MAX).cc(2);
    }
    String[] subtracting = {"1B12", "5B100600"};
    for (String code : subtracting) {
      Bench bench = new Bench(says + ": " + code).set(1, MIN).set(2, 1).put(0x600, hex(1));
      bench.set(Bench.MASK, 23).fine(code).has(1, MAX).cc(3).set(1, MIN).set(Bench.MASK, 8);
      bench.fault(code, 8).has(1, MAX).word(40, 0x08030008);
      bench.set(1, MIN + 1).set(Bench.MASK, 8).fine(code).has(1, MIN).cc(1);
    }
    new Bench(says + ": 4A").set(1, MIN).put(0x600, "FFFF").set(Bench.MASK, 8).fault("4A100600", 8).has(1, MAX);
  }

  private static void comparisons() {
    String says = "19 compare: CC 0 equal, 1 R less, 2 greater";
    for (int one : EDGES) {
      for (int two : EDGES) {
        Bench bench = new Bench(says + ": " + one + " " + two).set(1, one).set(2, two).put(0x600, hex(two));
        bench.set(Bench.CC, 3).fine("1912").cc(orderOf(one, two)).set(Bench.CC, 3);
        bench.fine("59100600").cc(orderOf(one, two)).set(Bench.CC, 3);
        bench.fine("49100602").cc(orderOf(one, (short) two)).has(1, one).has(2, two);
      }
    }
  }

  private static void logic() {
    String says = "14 and, 16 or, 17 exclusive or: CC 1 if the result is not 0, else 0";
    for (int one : EDGES) {
      for (int two : EDGES) {
        Bench bench = new Bench(says + ": " + one + " " + two).set(2, two);
        bench.set(1, one).set(Bench.CC, 3).fine("1412").has(1, one & two).cc((one & two) != 0 ? 1 : 0);
        bench.set(1, one).set(Bench.CC, 3).fine("1612").has(1, one | two).cc((one | two) != 0 ? 1 : 0);
        bench.set(1, one).set(Bench.CC, 3).fine("1712").has(1, one ^ two).cc((one ^ two) != 0 ? 1 : 0);
      }
    }
  }

  private static void products() {
    String says = "1C R + 1 times S into R (high) and R + 1: R must be even";
    for (int one : EDGES) {
      for (int two : EDGES) {
        long product = (long) one * two;
        new Bench(says + ": " + one + " " + two).set(4, 77).set(5, one).set(6, two).set(Bench.CC, 3)
            .fine("1C46").has(4, (int) (product >> 32)).has(5, (int) product).has(6, two).cc(3);
      }
    }
    new Bench(says + ": R as S").set(4, 6).set(5, 7).fine("1C44").has(4, 0).has(5, 42);
    new Bench(says + ": R + 1 as S").set(5, MIN).fine("1C45").has(4, 1 << 30).has(5, 0);
    new Bench(says + ": last pair").set(15, -3).set(1, 5).fine("1CE1").has(14, -1).has(15, -15).has(0, 0);
    new Bench(says + ": R 15").set(15, 3).set(0, 5).fault("1CF0", 6).has(15, 3).has(0, 5);
  }

  private static void quotients() {
    String says = "quotient to R + 1, rest (sign of the dividend) to R; R must be even; DIVIDE if S is 0 or the"
        + " quotient is no int";
    long[] dividends = {
      0, 1, -1, 7, -7, MAX, MIN, 0x7FFFFFFFL * 2 + 1, 0x80000000L, -0x80000001L, 0x100000000L,
      0x3FFFFFFF80000000L, 0x4000000000000000L, -0x4000000000000000L, Long.MAX_VALUE, Long.MIN_VALUE,
    };
    int[] divisors = {0, 1, -1, 2, -2, 3, -3, MAX, MIN};
    for (long dividend : dividends) {
      for (int divisor : divisors) {
        quotient(says, dividend, divisor);
      }
    }
    new Bench(says + ": R 15").set(15, 3).set(0, 5).fault("1DF0", 6).has(15, 3).has(0, 5);
    new Bench(says + ": R + 1 as S").set(14, 0).set(15, 9).fine("1DEF").has(14, 0).has(15, 1);
  }

  private static void quotient(String says, long dividend, int divisor) {
    int high = (int) (dividend >> 32);
    int low = (int) dividend;
    Bench bench = new Bench(says + ": " + dividend + " " + divisor).set(4, high).set(5, low).set(6, divisor);
    boolean right = divisor != 0 && !(dividend == Long.MIN_VALUE && divisor == -1)
        && dividend / divisor == (int) (dividend / divisor);
    if (right) {
      bench.set(Bench.CC, 3).fine("1D46").has(4, (int) (dividend % divisor)).has(5, (int) (dividend / divisor));
      bench.has(6, divisor).cc(3);
    } else {
      bench.fault("1D46", 9).has(4, high).has(5, low).has(6, divisor);
    }
  }

  private static void branchesByRegister() {
    String says = "07 if the bit 8 >> CC of R (a number) is set and S is not 0, ADDRESS = register S";
    for (int r = 0; r < 16; r++) {
      for (int cc = 0; cc < 4; cc++) {
        boolean set = (r & 8 >> cc) != 0;
        Bench bench = new Bench(says + ": " + r + " " + cc).set(3, 0x600).set(0, 0x700).set(Bench.CC, cc);
        bench.fine(String.format("07%X3", r)).has(Bench.ADDRESS, set ? 0x600 : 0x402).cc(cc);
        bench.fine(String.format("07%X0", r)).has(Bench.ADDRESS, 0x402);
      }
    }
  }

  private static void linksByRegister() {
    String says = "05 R = ADDRESS, and if S is not 0 ADDRESS = what register S was";
    new Bench(says).set(3, 0x600).fine("0513").has(1, 0x402).has(3, 0x600).has(Bench.ADDRESS, 0x600);
    new Bench(says + ": S 0").set(0, 0x600).fine("0510").has(1, 0x402).has(Bench.ADDRESS, 0x402);
    new Bench(says + ": the same").set(3, 0x600).fine("0533").has(3, 0x402).has(Bench.ADDRESS, 0x600);
    new Bench(says + ": both 0").set(0, 0x600).fine("0500").has(0, 0x402).has(Bench.ADDRESS, 0x402);
  }

  private static void supervisorCodes() {
    String says = "0A SUPERVISOR with the second byte as code";
    for (int code : new int[] {0, 1, 127, 128, 255}) {
      new Bench(says + ": " + code).fine(String.format("0A%02X", code)).word(32, code).word(36, 0x402)
          .has(Bench.ADDRESS, 0).looks(7, 0);
    }
  }

  private static void keysAreSet() {
    String says = "the KEY of the block at the address in register S = bits 240 of register R / 16 (addresses & 2047)";
    int[] addresses = {0, 255, 256, 1791, 1792, 2047, 2048, 2304, -1, MIN, MAX, 0x01000500};
    for (int address : addresses) {
      Bench bench = new Bench(says + ": " + address).set(1, 0xFFFFFF5F).set(2, address).fine("0812");
      for (int block = 0; block < 8; block++) {
        bench.has(Bench.BLOCK + block, block == (address & 2047) / 256 ? 5 : 0);
      }
    }
    new Bench(says + ": 15").set(1, 0xF0).fine("0812").has(Bench.BLOCK, 15).set(1, 0x10F).fine("0812")
        .has(Bench.BLOCK, 0);
  }

  private static void keysAreTaken() {
    String says = "bits 240 of R become that KEY (the lowest byte of R: KEY * 16)";
    for (int block = 0; block < 8; block++) {
      Bench bench = new Bench(says + ": " + block).set(Bench.BLOCK + block, 15).set(1, 0x123456FF);
      bench.set(2, 256 * block).fine("0912").has(1, 0x123456F0).set(2, 256 * block + 255 + 2048).set(1, -1);
      bench.fine("0912").has(1, -16).set(2, 256 * block + 256).fine("0912").has(1, -256);
      bench.has(Bench.BLOCK + block, 15);
    }
    new Bench(says + ": of itself").set(Bench.BLOCK + 1, 9).set(2, 0x1FF).fine("0922").has(2, 0x190);
  }

  private static void halfwordsWithSign() {
    String says = "48, 4A, 49 as 58, 5A, 59 with a halfword (with its sign)";
    int[] halfwords = {0, 1, 0x7FFF, 0x8000, 0xFFFF};
    for (int halfword : halfwords) {
      Bench bench = new Bench(says + ": " + halfword).put(0x600, String.format("%04X EEEE", halfword));
      bench.set(1, 77).set(Bench.CC, 3).fine("48100600").has(1, (short) halfword).cc(3);
      bench.set(1, 1).fine("4A100600").has(1, 1 + (short) halfword).cc(signOf(1 + (short) halfword));
      bench.set(1, 0).fine("49100600").cc(orderOf(0, (short) halfword)).has(1, 0);
    }
    String store = "40 halfword = R";
    for (int value : EDGES) {
      new Bench(store).put(0x600, "EEEEEEEE").set(1, value).fine("40100600")
          .word(0x600, value << 16 | 0xEEEE);
    }
  }

  private static void lowestByte() {
    String says = "43 the lowest byte of R = byte   42 byte = that";
    Bench bench = new Bench(says).put(0x600, "00FF80").set(1, 0x12345678).fine("43100600").has(1, 0x12345600);
    bench.fine("43100601").has(1, 0x123456FF).fine("43100602").has(1, 0x12345680).set(1, 0x1FF);
    bench.fine("42100600").bytes(0x600, "FFFF80").set(1, 0xFFFFFF00).fine("42100601").bytes(0x600, "FF0080");
  }

  private static void branches() {
    String says = "47 ADDRESS = the address if the bit 8 >> CC of R (a number) is set";
    for (int r = 0; r < 16; r++) {
      for (int cc = 0; cc < 4; cc++) {
        boolean set = (r & 8 >> cc) != 0;
        new Bench(says + ": " + r + " " + cc).set(Bench.CC, cc).fine(String.format("47%X00600", r))
            .has(Bench.ADDRESS, set ? 0x600 : 0x404).cc(cc);
      }
    }
    String link = "45 R = ADDRESS, ADDRESS = the address";
    new Bench(link).fine("45100600").has(1, 0x404).has(Bench.ADDRESS, 0x600);
    new Bench(link + ": R 0").fine("45000600").has(0, 0x404).has(Bench.ADDRESS, 0x600);
    new Bench(link + ": odd and beyond").fine("45100FFF").has(Bench.ADDRESS, 0xFFF).steps(1, 1).looks(7, 6);
  }

  private static void countDown() {
    String says = "46 R falls by 1, if it is not 0 ADDRESS = the address";
    int[] values = {2, 1, 0, -1, MIN, MAX};
    for (int value : values) {
      new Bench(says + ": " + value).set(1, value).set(Bench.CC, 3).fine("46100600").has(1, value - 1)
          .has(Bench.ADDRESS, value == 1 ? 0x404 : 0x600).cc(3);
    }
  }

  private static void packedToInt() {
    String says = "R = the packed number of 8 bytes, which begin at a multiple of 8; DATA; DIVIDE if it is no int";
    String[][] right = {
      {"000000000000000C", "0"}, {"000000000000000D", "0"}, {"000000000000001B", "-1"},
      {"000002147483647C", "2147483647"}, {"000002147483648D", "-2147483648"},
    };
    for (String[] row : right) {
      new Bench(says + ": " + row[0]).put(0x600, row[0]).set(Bench.CC, 3).fine("4F100600")
          .has(1, Integer.parseInt(row[1])).cc(3).bytes(0x600, row[0]);
    }
    String[] large = {
      "000002147483648C", "000002147483649D", "000004294967296C", "010000000000000C", "100000000000000C",
      "999999999999999D",
    };
    for (String number : large) {
      new Bench(says + ": DIVIDE " + number).put(0x600, number).set(1, 7).fault("4F100600", 9).has(1, 7);
    }
    for (int half = 0; half < 15; half++) {
      String number = "0".repeat(half) + "A" + "0".repeat(14 - half) + "C";
      new Bench(says + ": DATA " + number).put(0x600, number).set(1, 7).fault("4F100600", 7).has(1, 7);
    }
    new Bench(says + ": no sign").put(0x600, "0000000000000009").set(1, 7).fault("4F100600", 7).has(1, 7);
    for (int off = 1; off < 8; off++) {
      new Bench(says + ": at + " + off).put(0x600, "000000000000001C 000000000000001C").set(1, 7)
          .fault("4F10060" + off, 6).has(1, 7);
    }
  }

  private static void intToPacked() {
    String says = "4E 8 bytes, at such a place, become R as a packed number.";
    String[][] rows = {
      {"0", "000000000000000C"}, {"1", "000000000000001C"}, {"-1", "000000000000001D"},
      {"2147483647", "000002147483647C"}, {"-2147483648", "000002147483648D"}, {"-10", "000000000000010D"},
    };
    for (String[] row : rows) {
      new Bench(says + " " + row[0]).put(0x5FF, "EEFFFFFFFFFFFFFFFFEE").set(1, Integer.parseInt(row[0]))
          .fine("4E100600").bytes(0x5FF, "EE" + row[1] + "EE");
    }
    for (int off = 1; off < 8; off++) {
      new Bench(says + " At + " + off).set(1, 7).fault("4E10060" + off, 6).word(0x604, 0).word(0x60C, 0);
    }
  }

  private static void lowest16Bits() {
    String says = "(ADDRESS takes the lowest 16 bits of what it becomes.)";
    int[] targets = {0x10600, -2, MIN, 65535, 65536, MAX};
    for (int target : targets) {
      int address = target & 65535;
      new Bench(says + ": 07 " + target).set(3, target).fine("07F3").has(Bench.ADDRESS, address);
      new Bench(says + ": 05 " + target).set(3, target).fine("0513").has(Bench.ADDRESS, address);
      new Bench(says + ": 47 " + target).set(3, target).fine("47F03000").has(Bench.ADDRESS, address);
      new Bench(says + ": 45 " + target).set(3, target).fine("45103000").has(Bench.ADDRESS, address);
      new Bench(says + ": 46 " + target).set(3, target).fine("46103000").has(Bench.ADDRESS, address);
    }
  }

  private static void shifts() {
    String says = "88 R >>> A & 63, 89 R << A & 63 (0 from 32 on)   8A R >> A & 63 (all sign from 32 on), SIGN";
    int[] values = {0, 1, -1, MIN, MAX, 0x12345678, 0x87654321};
    int[] amounts = {0, 1, 31, 32, 33, 62, 63, 64, 65, 95, 96, 127, 0xFFF};
    for (int value : values) {
      for (int amount : amounts) {
        int by = amount & 63;
        int withSign = (int) ((long) value >> by);
        String half = String.format("%04X", amount);
        Bench bench = new Bench(says + ": " + value + " by " + amount).set(1, value).set(Bench.CC, 3);
        bench.fine("8810" + half).has(1, by > 31 ? 0 : value >>> by).cc(3).set(1, value);
        bench.fine("8910" + half).has(1, by > 31 ? 0 : value << by).cc(3).set(1, value);
        bench.fine("8A10" + half).has(1, withSign).cc(signOf(withSign));
      }
    }
  }

  private static void shiftsAreNoPlaces() {
    String says = "RS (the address A is no place)";
    for (int base : new int[] {-1, 2049, 0xFFFFC1, MAX}) {
      Bench bench = new Bench(says + ": " + base).set(5, base).set(Bench.KEY, 3);
      bench.set(1, MIN).fine("88105000").has(1, (base & 63) > 31 ? 0 : MIN >>> (base & 63));
      bench.set(1, 1).fine("89105000").has(1, (base & 63) > 31 ? 0 : 1 << (base & 63));
      bench.set(1, MIN).fine("8A105000").has(1, (base & 63) > 31 ? -1 : MIN >> (base & 63));
    }
  }

  private static void registersBehind15() {
    String says = "98 registers R, R + 1, .. S (behind 15 comes 0) = words from A on   90 words = them";
    for (int r = 0; r < 16; r++) {
      for (int s = 0; s < 16; s++) {
        int n = (s + 16 - r) % 16 + 1;
        storedRegisters(new Bench(says + ": 90 " + r + " " + s), r, s, n);
        loadedRegisters(new Bench(says + ": 98 " + r + " " + s), r, s, n);
      }
    }
  }

  private static void storedRegisters(Bench bench, int r, int s, int n) {
    for (int k = 0; k < 16; k++) {
      bench.set(k, -1 - k);
    }
    bench.put(0x600 + 4 * n, "EEEEEEEE").fine(String.format("90%X%X0600", r, s));
    for (int k = 0; k < n; k++) {
      bench.word(0x600 + 4 * k, -1 - (r + k) % 16);
    }
    bench.word(0x600 + 4 * n, 0xEEEEEEEE).word(0x5FC, 0);
  }

  private static void loadedRegisters(Bench bench, int r, int s, int n) {
    for (int k = 0; k < 16; k++) {
      bench.set(k, -1 - k).put(0x600 + 4 * k, hex(0x100 + k));
    }
    bench.fine(String.format("98%X%X0600", r, s));
    for (int k = 0; k < 16; k++) {
      int register = (r + k) % 16;
      bench.has(register, k < n ? 0x100 + k : -1 - register);
    }
  }

  private static final int[] BYTES = {0, 1, 127, 128, 254, 255};

  private static void logicOfBytes() {
    String says = "94 byte & I, 96 byte | I: CC 1 if the result is not 0, else 0";
    for (int one : BYTES) {
      for (int two : BYTES) {
        Bench bench = new Bench(says + ": " + one + " " + two).put(0x600, String.format("%02XEE", one));
        bench.set(Bench.CC, 3).fine(String.format("94%02X0600", two)).cc((one & two) != 0 ? 1 : 0);
        bench.bytes(0x5FF, String.format("00%02XEE", one & two)).put(0x600, String.format("%02X", one));
        bench.set(Bench.CC, 3).fine(String.format("96%02X0600", two)).cc((one | two) != 0 ? 1 : 0);
        bench.bytes(0x5FF, String.format("00%02XEE", one | two));
        bench.fine(String.format("92%02X0600", two)).bytes(0x5FF, String.format("00%02XEE", two));
      }
    }
  }

  private static void comparisonOfBytes() {
    String says = "95 compare byte and I, without sign, CC as 19";
    for (int one : BYTES) {
      for (int two : BYTES) {
        new Bench(says + ": " + one + " " + two).put(0x600, String.format("%02X", one)).set(Bench.CC, 3)
            .fine(String.format("95%02X0600", two)).cc(orderOf(one, two)).bytes(0x600, String.format("%02X", one));
      }
    }
  }

  private static void testedBits() {
    String says = "91 CC 0 if the bits I of the byte are all 0 (or I is 0), 3 all 1, else 1";
    for (int one : BYTES) {
      for (int two : BYTES) {
        int code = (one & two) == 0 ? 0 : (one & two) == two ? 3 : 1;
        new Bench(says + ": " + one + " " + two).put(0x600, String.format("%02X", one)).set(Bench.CC, 2)
            .fine(String.format("91%02X0600", two)).cc(code).bytes(0x600, String.format("%02X", one));
      }
    }
  }

  private static void statusAtMultipleOf8() {
    String says = "P 82 the STATUS is loaded from A (a multiple of 8, 8 bytes)";
    String status = "00 21 0000 0000 0602";
    new Bench(says).put(0x600, status).fine("82000600").has(Bench.KEY, 2).cc(1).has(Bench.ADDRESS, 0x602);
    for (int off = 1; off < 8; off++) {
      new Bench(says + ": + " + off).put(0x600 + off, status).set(Bench.CC, 3).fault("8200060" + off, 6)
          .word(40, 0x00030006);
    }
    new Bench(says + ": last").put(2040, status).fine("820007F8").has(Bench.ADDRESS, 0x602);
    new Bench(says + ": behind it").set(1, 2048).fault("82001000", 5);
  }

  private static void moveFromTheLeft() {
    String says = "D2 L bytes of the first operand become those of the second one, byte after byte from the left";
    new Bench(says).put(0x600, "C1C2C3C4").fine("D202 0601 0600").bytes(0x600, "C1C1C1C100");
    new Bench(says + ": two apart").put(0x600, "C1C2C3C4C5C6").fine("D203 0602 0600").bytes(0x600, "C1C2C1C2C1C2");
    new Bench(says + ": to the left").put(0x600, "C1C2C3C4").fine("D202 0600 0601").bytes(0x600, "C2C3C4C4");
    new Bench(says + ": the same").put(0x600, "C1C2").fine("D201 0600 0600").bytes(0x600, "C1C2");
    Bench fill = new Bench(says + ": 256").put(0x600, "C1").fine("D2FF 0601 0600").bytes(0x600, "C1C1");
    fill.bytes(0x6FF, "C1C100");
  }

  private static void comparisonOfRows() {
    String says = "D5 compare L bytes, CC";
    for (int one : BYTES) {
      for (int two : BYTES) {
        Bench bench = new Bench(says + ": " + one + " " + two).put(0x600, String.format("55%02XFF", one));
        bench.put(0x680, String.format("55%02X00", two)).set(Bench.CC, 3);
        bench.fine("D500 0600 0680").cc(0).fine("D501 0600 0680").cc(orderOf(one, two));
        bench.fine("D502 0600 0680").cc(one == two ? 2 : orderOf(one, two));
      }
    }
    Bench first = new Bench(says + ": first byte").put(0x5FF, "00C2C0").put(0x67F, "FFC1C9");
    first.fine("D500 0600 0680").cc(2).fine("D501 0600 0680").cc(2).fine("D501 0680 0600").cc(1);
    Bench last = new Bench(says + ": byte 256").put(0x6FF, "01").fine("D5FE 0600 0500").cc(0);
    last.fine("D5FF 0600 0500").cc(2).fine("D5FF 0500 0600").cc(1);
  }

  private static void translation() {
    String says = "DC each of L bytes of the first one becomes the byte at the second one's address + it";
    Bench bench = new Bench(says).put(0x500, "C0C1").put(0x5FF, "CF").put(0x57F, "C7C8");
    bench.put(0x6FF, "EE 00 01 7F 80 FF 00").set(Bench.CC, 3).fine("DC04 0700 0500");
    bench.bytes(0x6FF, "EE C0 C1 C7 C8 CF 00").cc(3);
    Bench whole = new Bench(says + ": 256").put(0x500, "C0").put(0x7FF, "00").put(0x600, "00");
    whole.fine("DCFF 0600 0500").bytes(0x600, "C0C0").bytes(0x6FF, "C000");
  }
}
