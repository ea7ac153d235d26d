/** Boundary cases of what goes wrong, in which order, and of STORING; "says" as elsewhere. */
public final class FaultSentencesTest {
  /** Operation with its second byte, the bytes it needs, and the multiple at which they begin. */
  private static final String[][] READING = {
    {"4340", "1", "1"}, {"4840", "2", "2"}, {"4A40", "2", "2"}, {"4940", "2", "2"}, {"5840", "4", "4"},
    {"5A40", "4", "4"}, {"5B40", "4", "4"}, {"5940", "4", "4"}, {"4F40", "8", "8"}, {"9507", "1", "1"},
    {"9107", "1", "1"}, {"8200", "8", "8"}, {"9844", "4", "4"}, {"9845", "8", "4"}, {"9843", "64", "4"},
  };
  private static final String[][] STORING = {
    {"4240", "1", "1"}, {"4040", "2", "2"}, {"5040", "4", "4"}, {"4E40", "8", "8"}, {"92AB", "1", "1"},
    {"94AB", "1", "1"}, {"96AB", "1", "1"}, {"9044", "4", "4"}, {"9045", "8", "4"}, {"9043", "64", "4"},
  };
  private static final String[] PACKED = {"F8", "F9", "FA", "FB"};

  public static void main(String[] args) {
    firstToLastByteOfReading();
    firstToLastByteOfStoring();
    firstToLastByteOfRows();
    firstToLastByteOfPacked();
    bytesOfTheInstruction();
    oddInstruction();
    privileged();
    orderWithinTheInstruction();
    orderOfRegisters();
    orderWithinOneOperand();
    orderOfTwoOperands();
    orderOfWhatIsTold();
    nothingIsChanged();
    resultIsThere();
    lookedAtBeforeTheFirst();
    storedOnly();
    Bench.finish();
  }

  /** A packed number ends at the end of storage, so that 4F finds no DATA there. */
  private static Bench atTheEnd(String title, int place) {
    return new Bench(title).put(2040, "000000000000001C").set(5, place).set(4, 9);
  }

  private static void firstToLastByteOfReading() {
    String says = "5 ADDRESSING (a byte that is needed lies beyond 2047)";
    for (String[] row : READING) {
      lastPlaces(says + ": " + row[0], row);
    }
  }

  private static void firstToLastByteOfStoring() {
    String says = "5 ADDRESSING (a byte that is needed lies beyond 2047)";
    for (String[] row : STORING) {
      lastPlaces(says + ": " + row[0], row);
    }
  }

  private static void lastPlaces(String title, String[] row) {
    int multiple = Integer.parseInt(row[2]);
    int last = 2048 - Integer.parseInt(row[1]);
    atTheEnd(title, last).fine(row[0] + "5000");
    for (int place : new int[] {last + multiple, 2048, 4096, 65536, 0xFFFFF8}) {
      atTheEnd(title + " at " + place, place).fault(row[0] + "5000", 5).has(4, 9).has(5, place)
          .word(2040, 0).word(2044, 0x1C);
    }
  }

  private static void firstToLastByteOfRows() {
    String says = "5 for its first to last byte";
    for (int length : new int[] {1, 2, 255, 256}) {
      String half = String.format("%02X", length - 1);
      int last = 2048 - length;
      for (String op : new String[] {"D2", "D5", "DC"}) {
        new Bench(says).set(5, last).fine(op + half + "5000 0500");
        new Bench(says).set(5, last).fault(op + half + "5001 0500", 5);
        new Bench(says).set(5, 2048).fault(op + half + "5000 0500", 5);
      }
      for (String op : new String[] {"D2", "D5"}) {
        new Bench(says).set(5, last).fine(op + half + "0500 5000");
        new Bench(says).set(5, last).fault(op + half + "0500 5001", 5);
      }
      String needed = "(256 bytes there are needed)";
      new Bench(needed).set(5, 2048 - 256).fine("DC" + half + "0500 5000");
      new Bench(needed).set(5, 2048 - 256).fault("DC" + half + "0500 5001", 5);
    }
  }

  private static void firstToLastByteOfPacked() {
    String says = "5 for its first to last byte";
    for (String op : PACKED) {
      for (int length = 1; length <= 16; length++) {
        String half = Integer.toHexString(length - 1);
        Bench bench = atTheEnd(says + ": " + op + " " + length, 2048 - length).put(0x500, "0C");
        bench.fine(op + half + "0 5000 0500").fine(op + "0" + half + "0500 5000");
        bench.fault(op + half + "0 5001 0500", 5).fault(op + "0" + half + "0500 5001", 5);
      }
    }
  }

  private static Bench codeAt(String title, int address, String hex) {
    return new Bench(title).put(address, hex).set(Bench.ADDRESS, address);
  }

  private static void bytesOfTheInstruction() {
    String says = "of the instruction: ADDRESS odd 6, its bytes 5, 1, 2";
    codeAt(says, 2046, "1812").steps(1, 0).has(Bench.ADDRESS, 2048);
    codeAt(says, 2044, "41100001").steps(1, 0).has(Bench.ADDRESS, 2048);
    codeAt(says, 2042, "D50000000000").steps(1, 0).has(Bench.ADDRESS, 2048);
    codeAt(says, 2046, "4110").steps(1, 1).looks(7, 5).word(44, 2050).has(1, 0);
    codeAt(says, 2046, "D500").steps(1, 1).looks(7, 5).word(44, 2052);
    codeAt(says, 2044, "D5000000").steps(1, 1).looks(7, 5).word(44, 2050);
    new Bench(says).set(Bench.ADDRESS, 2048).steps(1, 1).looks(7, 5).word(44, 2050);
  }

  private static void oddInstruction() {
    String says = "of the instruction: ADDRESS odd 6, its bytes 5, 1, 2";
    for (int address : new int[] {1, 0x401, 2045, 2047, 2049, 65535}) {
      new Bench(says + ": at " + address).set(Bench.ADDRESS, address).steps(1, 1).looks(7, 6)
          .word(44, address + 2 & 65535);
    }
  }

  private static void privileged() {
    String says = "2 PRIVILEGED (in PROBLEM one marked P)";
    for (String code : new String[] {"0812", "0912", "82000600", "9C010000", "9D000000"}) {
      new Bench(says + ": " + code).set(Bench.MASK, 4).fault(code, 2).looks(0, 0);
      new Bench(says + ": " + code + " otherwise").fine(code);
    }
    for (String code : new String[] {"0700", "0500", "0A00", "1812", "41100000", "88100000", "92000600"}) {
      new Bench(says + ": " + code + " is not marked").set(Bench.MASK, 4).fine(code);
    }
  }

  private static void orderWithinTheInstruction() {
    String says = "In this order: of the instruction: ADDRESS odd 6, its bytes 5, 1, 2";
    codeAt(says + ", 6 before 5", 2047, "58").steps(1, 1).looks(7, 6).word(44, 2051);
    codeAt(says + ", 6 before 1", 0x401, "0000").steps(1, 1).looks(7, 6);
    codeAt(says + ", 6 before 2", 0x401, "0812").set(Bench.MASK, 4).steps(1, 1).looks(7, 6);
    codeAt(says + ", 5 before 1", 2046, "4400").steps(1, 1).looks(7, 5);
    codeAt(says + ", 5 before 2", 2046, "8200").set(Bench.MASK, 4).steps(1, 1).looks(7, 5);
    codeAt(says + ", 1 in PROBLEM", 0x400, "0000").set(Bench.MASK, 4).steps(1, 1).looks(7, 1);
  }

  private static void orderOfRegisters() {
    String says = "then 6 of registers, then of each operand, the first one first";
    new Bench(says + ": 1D before DIVIDE").set(5, 1).fault("1D57", 6).has(5, 1);
    new Bench(says + ": 2 before 6 of an operand").set(Bench.MASK, 4).fault("82000601", 2);
    new Bench(says + ": 2 before 5 of an operand").set(Bench.MASK, 4).set(5, 2048).fault("82005000", 2);
    for (int r = 1; r < 16; r += 2) {
      new Bench(says + ": 1C").fault(String.format("1C%X2", r), 6);
      new Bench(says + ": 1D").set(2, 1).fault(String.format("1D%X2", r), 6);
    }
  }

  /** KEY 3; block 5 is open, blocks 6 and 7 are closed. */
  private static Bench keyed(String title) {
    return new Bench(title).set(Bench.KEY, 3).set(Bench.BLOCK + 5, 3).set(Bench.BLOCK + 6, 4)
        .set(Bench.BLOCK + 7, 4).set(5, 0x500).set(6, 0x600).set(7, 2048);
  }

  private static void orderWithinOneOperand() {
    String says = "6, 5 for its first to last byte, and, for storing, 4";
    keyed(says + ": 6 before 5 of a word").fault("58107002", 6);
    keyed(says + ": 6 before 5 of a halfword").fault("48107001", 6);
    keyed(says + ": 6 before 5 of eight bytes").fault("4F107004", 6);
    keyed(says + ": 6 before 5 of a status").fault("82007004", 6);
    keyed(says + ": 6 before 5 of registers").fault("98107002", 6);
    keyed(says + ": 6 before 4 of a word").fault("50106002", 6);
    keyed(says + ": 6 before 4 of a halfword").fault("40106001", 6);
    keyed(says + ": 6 before 4 of eight bytes").fault("4E106004", 6);
    keyed(says + ": 6 before 4 of registers").fault("90106002", 6);
    keyed(says + ": 5 before 4 of registers").fault("901207FC", 5).word(0x7FC, 0);
    keyed(says + ": 5 before 4 of a row").fault("D201 07FF 0500", 5);
    keyed(says + ": 5 before 4 of a packed number").fault("F810 07FF 0500", 5);
  }

  private static void orderOfTwoOperands() {
    String says = "then of each operand, the first one first";
    for (String op : new String[] {"D200", "DC00", "F800", "FA00", "FB00"}) {
      keyed(says + ": 4 of the first before 5 of the second " + op).fault(op + "6000 7000", 4);
      keyed(says + ": 5 of the second " + op).fault(op + "5000 7000", 5);
      keyed(says + ": 5 of the first " + op).fault(op + "7000 5000", 5);
    }
  }

  private static void orderOfWhatIsTold() {
    String says = "then what is told";
    for (String op : new String[] {"FA", "FB", "F8"}) {
      keyed(says + ": 4 before DATA of " + op).fault(op + "00 6000 5000", 4);
      keyed(says + ": 5 before DATA of " + op).fault(op + "00 5000 7000", 5);
    }
    keyed(says + ": 5 before DATA of F9").fault("F900 5000 7000", 5);
    new Bench(says + ": DATA before DIVIDE").put(0x600, "9999999999999990").fault("4F100600", 7);
    new Bench(says + ": DATA before DECIMAL OVERFLOW").set(Bench.MASK, 16).put(0x600, "9C99")
        .fault("FA00 0600 0601", 7).bytes(0x600, "9C99");
  }

  private static final int[] VALUES = {
    0x70, 0x7F1, -2, 3, -4, 5, 6, 2048, 8, 9, -10, 11, 12, 13, 0, 15,
  };

  /** Everything that an instruction could change stands in the frame, with values that differ. */
  private static Bench full(String title, int mask) {
    Bench bench = new Bench(title).set(Bench.MASK, mask).set(Bench.KEY, 3).set(Bench.CC, 2);
    for (int k = 0; k < 16; k++) {
      bench.set(k, VALUES[k]);
    }
    for (int block = 0; block < 8; block++) {
      bench.set(Bench.BLOCK + block, block == 6 ? 4 : 3);
    }
    return bench.put(0x500, "999C19A199999999 9999999999999999").put(0x600, "E1E2E3E4E5E6E7E8");
  }

  private static void isFull(Bench bench, int mask, int code) {
    bench.word(40, mask << 24 | 0x00320000 | code);
    for (int k = 0; k < 16; k++) {
      bench.has(k, VALUES[k]);
    }
    for (int block = 0; block < 8; block++) {
      bench.has(Bench.BLOCK + block, block == 6 ? 4 : 3);
    }
    bench.bytes(0x500, "999C19A199999999 9999999999999999").bytes(0x600, "E1E2E3E4E5E6E7E8");
    bench.looks(0, 0).looks(1, 0).looks(4, 0).word(2040, 0).word(2044, 0);
  }

  private static void nothingIsChanged() {
    String says = "But for 8 and 10 nothing is changed then (but ADDRESS).";
    String[][] faults = {
      {"0012", "1"}, {"44100600", "1"}, {"D10000000500", "1"}, {"0812", "2"}, {"0912", "2"},
      {"82000600", "2"}, {"9C010000", "2"}, {"9D000000", "2"}, {"50300600", "4"}, {"40300600", "4"},
      {"42300600", "4"}, {"4E300600", "4"}, {"90120600", "4"}, {"92AB0600", "4"}, {"94AB0600", "4"},
      {"96AB0600", "4"}, {"D2010600 0500", "4"}, {"DC010600 0500", "4"}, {"F8000600 0501", "4"},
      {"58307000", "5"}, {"5A307000", "5"}, {"5B307000", "5"}, {"59307000", "5"}, {"48307000", "5"},
      {"4A307000", "5"}, {"49307000", "5"}, {"43307000", "5"}, {"4F307000", "5"}, {"982307FC", "5"},
      {"902307FC", "5"}, {"91AB7000", "5"}, {"95AB7000", "5"}, {"94AB7000", "5"}, {"96AB7000", "5"},
      {"D5007000 0500", "5"}, {"D2010500 07FF", "5"}, {"DC000500 0701", "5"}, {"1C32", "6"}, {"1D32", "6"},
      {"58300501", "6"}, {"50300501", "6"}, {"48300501", "6"}, {"40300501", "6"}, {"98230501", "6"},
      {"90230501", "6"}, {"4F300504", "6"}, {"4E300504", "6"}, {"4F300500", "7"}, {"F8010500 0502", "7"},
      {"FA110500 0502", "7"}, {"FB110500 0502", "7"}, {"F9110500 0502", "7"}, {"FA110502 0500", "7"},
      {"1D2E", "9"}, {"1D03", "9"},
    };
    for (String[] fault : faults) {
      int code = Integer.parseInt(fault[1]);
      int mask = code == 2 ? 4 + 8 + 16 : 8 + 16;
      isFull(full(says + " " + fault[0], mask).fault(fault[0], code), mask, code);
    }
    Bench divide = new Bench(says + " 4F").put(0x600, "000002147483648C").set(3, 7).set(Bench.CC, 2);
    divide.fault("4F300600", 9).has(3, 7).word(40, 0x00020009).bytes(0x600, "000002147483648C");
  }

  private static void resultIsThere() {
    String says = "if the MASK says so, OVERFLOW (the result is there)";
    Bench sum = new Bench(says).set(1, Integer.MAX_VALUE).set(2, 2).set(Bench.MASK, 8).fault("1A12", 8);
    sum.has(1, Integer.MIN_VALUE + 1).word(40, 0x08030008);
    String decimal = "But for 8 and 10 nothing is changed then (but ADDRESS).";
    Bench packed = new Bench(decimal).put(0x600, "999C2C").set(Bench.MASK, 16).fault("FA10 0600 0602", 10);
    packed.bytes(0x600, "001C2C").word(40, 0x1003000A);
  }

  private static void lookedAtBeforeTheFirst() {
    String says = "All bytes that are to be stored are looked at before the first one is.";
    String[] across = {"9012 05FC", "D201 05FF 0500", "DC01 05FF 0500", "F810 05FF 0502", "FA10 05FF 0502"};
    for (String code : across) {
      Bench bench = keyed(says + " " + code).put(0x500, "AABB1C").put(0x5FF, "001C").set(1, -1).set(2, -2);
      bench.fault(code, 4).bytes(0x5FC, "000000001C").bytes(0x600, "1C000000");
      Bench before = keyed(says + " closed first " + code).put(0x500, "AABB1C").put(0x5FF, "001C");
      before.set(Bench.BLOCK + 5, 4).set(Bench.BLOCK + 6, 3).fault(code, 4).bytes(0x5FC, "000000001C");
      Bench open = keyed(says + " open " + code).put(0x500, "AABB1C").put(0x5FF, "001C");
      open.set(Bench.BLOCK + 6, 3).fine(code);
    }
    Bench three = keyed(says + " Three blocks").set(Bench.BLOCK + 4, 3).put(0x600, "AB").set(1, 0x4FF);
    three.set(Bench.BLOCK + 5, 4).set(Bench.BLOCK + 6, 3).fault("D2FF 1000 0600", 4).bytes(0x4FF, "0000");
    three.set(Bench.KEY, 3).set(Bench.BLOCK + 5, 3).fine("D2FF 1000 0600").bytes(0x4FF, "AB");
  }

  private static void storedOnly() {
    String says = "STORING of a byte in a block: PROTECTION, if KEY is not 0 and not the block's.";
    for (String[] row : READING) {
      keyed(says + " Reading " + row[0]).put(0x618, "000000000000001C").fine(row[0] + "0618");
    }
    for (String[] row : STORING) {
      keyed(says + " Storing " + row[0]).fault(row[0] + "0618", 4).word(0x618, 0).word(0x61C, 0);
      keyed(says + " KEY 0 " + row[0]).set(Bench.KEY, 0).fine(row[0] + "0618");
      keyed(says + " Open " + row[0]).fine(row[0] + "0518");
    }
    keyed(says + " Second of D2").fine("D203 0500 0600");
    keyed(says + " Table of DC").fine("DC03 0500 0600");
    keyed(says + " Both of D5").fine("D503 0600 0604");
    keyed(says + " Both of F9").put(0x600, "1C").fine("F900 0600 0600");
    keyed(says + " Second of FA").put(0x600, "1C").put(0x500, "2C").fine("FA00 0500 0600").bytes(0x500, "3C");
  }
}
