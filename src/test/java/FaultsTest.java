/** Promise 8, what goes wrong: the codes, their order, and that nothing is changed but ADDRESS. */
public final class FaultsTest {
  public static void main(String[] args) {
    operations();
    instructionFaults();
    privileges();
    protection();
    orderOfOperands();
    packedAtTheEnd();
    nothingIsChanged();
    Bench.finish();
  }

  private static final String KNOWN = " 05 07 08 09 0A 12 14 16 17 18 19 1A 1B 1C 1D"
      + " 40 41 42 43 45 46 47 48 49 4A 4E 4F 50 58 59 5A 5B"
      + " 82 88 89 8A 90 91 92 94 95 96 98 9C 9D D2 D5 DC F8 F9 FA FB ";

  private static void operations() {
    String says = "1 OPERATION (no such one)";
    for (int first = 0; first < 256; first++) {
      String op = String.format("%02X", first);
      String code = op + (first < 64 ? "00" : first < 192 ? "000000" : "0000000000");
      if (!KNOWN.contains(" " + op + " ")) {
        new Bench(says + ": " + op).set(Bench.MASK, 4).fault(code, 1);
      } else {
        Bench bench = new Bench(says + ": there is " + op).put(Bench.CODE, code);
        bench.set(Bench.ADDRESS, Bench.CODE).frame.step(1);
        bench.due("OPERATION", bench.frame.look(7) == 1, false);
      }
    }
  }

  private static Bench at(String title, int address, String hex) {
    return new Bench(title).put(address, hex).set(Bench.ADDRESS, address);
  }

  private static void instructionFaults() {
    at("odd", 513, "1812").steps(1, 1).looks(7, 6).word(44, 515);
    at("odd of four", 513, "58120000").steps(1, 1).looks(7, 6).word(44, 517);
    at("odd of six", 513, "D20000000000").steps(1, 1).looks(7, 6).word(44, 519);
    at("odd before OPERATION", 513, "0000").steps(1, 1).looks(7, 6);
    at("odd before ADDRESSING", 2047, "D2").steps(1, 1).looks(7, 6).word(44, 2053);
    at("last two", 2046, "1812").steps(1, 0).has(Bench.ADDRESS, 2048).steps(1, 1).looks(7, 5)
        .word(44, 2050);
    at("last four", 2044, "41100007").steps(1, 0).has(1, 7).has(Bench.ADDRESS, 2048);
    at("two of four", 2046, "4110").steps(1, 1).looks(7, 5).word(44, 2050).has(1, 0);
    at("four of six", 2044, "D2000000").steps(1, 1).looks(7, 5).word(44, 2050);
    at("ADDRESSING before OPERATION", 2046, "4400").steps(1, 1).looks(7, 5);
    at("ADDRESSING before PRIVILEGED", 2046, "8200").set(Bench.MASK, 4).steps(1, 1).looks(7, 5);
    new Bench("beyond and odd").set(Bench.ADDRESS, 2049).steps(1, 1).looks(7, 6).word(44, 2051);
    new Bench("ADDRESS wraps").set(Bench.ADDRESS, 65534).steps(1, 1).looks(7, 5).word(44, 0);
    new Bench("odd ADDRESS wraps").set(Bench.ADDRESS, 65535).steps(1, 1).looks(7, 6).word(44, 1);
  }

  private static void privileges() {
    String[] marked = {"0812", "0912", "82000600", "9C010000", "9D000000"};
    for (String code : marked) {
      new Bench("PRIVILEGED " + code).set(Bench.MASK, 31).set(Bench.CC, 3).fault(code, 2)
          .word(40, 0x1F030002).looks(0, 0);
      new Bench("allowed " + code).set(Bench.MASK, 27).fine(code);
    }
    new Bench("0A is free").set(Bench.MASK, 4).fine("0A07");
    new Bench("82 SPECIFICATION later").set(Bench.MASK, 4).fault("82000001", 2);
  }

  /** KEY 3 stores to block 5, whose key is 3, and not to block 6, whose key is 4. */
  private static Bench keyed(String title) {
    return new Bench(title).set(Bench.KEY, 3).set(Bench.BLOCK + 5, 3).set(Bench.BLOCK + 6, 4)
        .set(5, 0x500).set(6, 0x600).put(0x5F0, "000000000000001C").put(0x604, "05060708");
  }

  private static void protection() {
    String[] stores = {"5010", "4010", "4210", "4E10", "9011", "9200", "9400", "9600"};
    for (String op : stores) {
      keyed("open " + op).fine(op + "5010");
      keyed("closed " + op).fault(op + "6010", 4).bytes(0x610, "0000000000000000");
      keyed("KEY 0 " + op).set(Bench.KEY, 0).fine(op + "6010");
      keyed("block with key 0 " + op).set(Bench.BLOCK + 6, 0).fault(op + "6010", 4);
    }
    String[] loads = {"5810", "5A10", "5910", "4810", "4310", "9811", "9500", "9100", "8200"};
    for (String op : loads) {
      keyed("reading " + op).fine(op + "6010");
    }
    for (String op : new String[] {"D200", "DC00", "F800", "FA00", "FB00"}) {
      keyed("closed " + op).put(0x620, "1C").fault(op + "6020 5000", 4).bytes(0x620, "1C");
    }
    keyed("D2 from there").put(0x620, "1C").fine("D200 5010 6020").bytes(0x510, "1C");
    keyed("F9 stores nothing").put(0x620, "1C").fine("F900 6020 6020").cc(0);
    keyed("across, the last byte closed").fault("D201 50FF 6004", 4).bytes(0x5FF, "0000");
    keyed("across, the first byte closed").set(Bench.BLOCK + 5, 9).set(Bench.BLOCK + 6, 3)
        .fault("D201 50FF 6004", 4).bytes(0x5FF, "0000");
    keyed("90 across").set(1, 1).set(2, 2).fault("9012 50FC", 4).bytes(0x5FC, "0000000000000000");
    keyed("90 far across").fault("901F 50C8", 4).bytes(0x5C8, "00000000").fine("901F 50C4");
    keyed("F8 across").fault("F810 50FF 50F6", 4).bytes(0x5FF, "0000");
    keyed("FA up to the border").put(0x5FC, "0000001C").fine("FA30 50FC 50F7").bytes(0x5FC, "0000002C");
    keyed("up to the border").fine("D200 50FF 6004").bytes(0x5FF, "0500");
    keyed("D2 over three blocks").set(Bench.BLOCK + 6, 3).set(Bench.BLOCK + 7, 3)
        .fine("D2FF 5080 5000").fine("D2FF 5180 5000").set(Bench.BLOCK + 7, 1).fault("D2FF 5180 5000", 4);
  }

  private static void orderOfOperands() {
    keyed("registers before operands").fault("1D37", 6);
    keyed("6 before 5").set(1, 2048).fault("58201001", 6);
    keyed("6 before 4").fault("50206001", 6);
    keyed("5 for a word").set(1, 2048).fault("50201000", 5);
    keyed("5 before 4 in one operand").set(Bench.BLOCK + 7, 9).fault("901F07F0", 5);
    keyed("4 of the first before 5 of the second").set(1, 2048).fault("D200 6000 1000", 4);
    keyed("5 of the first before all of the second").set(1, 2048).fault("D200 1000 6000", 5);
    keyed("4 before DATA").fault("FA00 6004 6004", 4);
    keyed("5 before DATA").set(1, 2048).fault("FA00 5004 1000", 5);
    keyed("5 before DATA of F9").set(1, 2048).fault("F900 1000 5000", 5);
    keyed("far beyond").set(1, -1).fault("D2FF 5000 1000", 5).set(1, -1).fault("43101000", 5);
  }

  private static void packedAtTheEnd() {
    for (String op : new String[] {"F8", "F9", "FA", "FB"}) {
      Bench bench = new Bench("end of storage " + op).put(0x7FE, "001C").put(0x500, "001C");
      bench.set(1, 0x7FE).fine(op + "11 1000 0500").fine(op + "11 0500 1000");
      bench.fault(op + "21 1000 0500", 5).fault(op + "12 0500 1000", 5);
      bench.fault(op + "01 1002 0500", 5).fault(op + "10 0500 1002", 5);
    }
  }

  private static void nothingIsChanged() {
    Bench bench = new Bench("a fault").set(Bench.KEY, 3).set(Bench.MASK, 24).set(Bench.CC, 2);
    bench.set(Bench.BLOCK + 5, 3).set(1, 5).set(2, 9).put(104, "01 71 0000 0000 0222");
    bench.put(0x500, "123C99").fault("FA10 0500 0502", 7);
    bench.word(40, 0x18320007).bytes(0x500, "123C99").has(1, 5).has(2, 9);
    bench.has(Bench.MASK, 1).has(Bench.KEY, 7).cc(1).has(Bench.ADDRESS, 0x222).has(Bench.BLOCK + 5, 3);
  }
}
