/** Promise 8, instructions of four bytes: RX, RS and SI. */
public final class OperandTest {
  private static final int MIN = Integer.MIN_VALUE;
  private static final int MAX = Integer.MAX_VALUE;

  public static void main(String[] args) {
    addresses();
    words();
    halfwords();
    bytes();
    branches();
    conversions();
    shifts();
    manyRegisters();
    immediates();
    statusLoaded();
    Bench.finish();
  }

  private static void addresses() {
    Bench bench = new Bench("addresses").set(0, 77).set(1, 0x100).set(2, 0x2000).set(Bench.CC, 2);
    bench.fine("41300123").has(3, 0x123).fine("41301123").has(3, 0x223);
    bench.fine("41321FFF").has(3, 0x30FF).fine("41320FFF").has(3, 0x2FFF);
    bench.set(1, -1).fine("41301000").has(3, 0xFFFFFF).fine("41301002").has(3, 1);
    bench.set(2, MIN).fine("41321001").has(3, 0).set(2, MAX).fine("41322003").has(3, 1);
    bench.set(1, 0x40).fine("41111001").has(1, 0x81).cc(2).has(Bench.ADDRESS, 1028);
    new Bench("wrapping index to a place").set(1, -8).put(0, "01020304").fine("58301008")
        .has(3, 0x01020304);
  }

  private static Bench with(String title, int register, String hex) {
    return new Bench(title).set(4, register).put(1536, hex).set(5, 1536).set(Bench.CC, 3);
  }

  private static void words() {
    with("58", 9, "80000001").fine("58405000").has(4, MIN + 1).cc(3);
    with("50", 0x12345678, "00").fine("50405004").bytes(1539, "00 12345678 00").cc(3);
    with("5A", 5, "FFFFFFF0").fine("5A405000").has(4, -11).cc(1);
    with("5A wraps", MAX, "00000001").fine("5A405000").has(4, MIN).cc(3);
    with("5A interrupts", MAX, "00000001").set(Bench.MASK, 8).fault("5A405000", 8).has(4, MIN);
    with("5B", 5, "00000005").fine("5B405000").has(4, 0).cc(0);
    with("5B wraps", 0, "80000000").fine("5B405000").has(4, MIN).cc(3);
    with("59 less", 5, "00000006").fine("59405000").has(4, 5).cc(1);
    with("59 equal", 6, "00000006").fine("59405000").cc(0);
    with("59 greater", 6, "80000006").fine("59405000").cc(2);
    for (int off = 1; off < 4; off++) {
      with("58 at + " + off, 9, "01020304 05060708").fault("5840500" + off, 6).has(4, 9);
      with("50 at + " + off, 9, "01020304 05060708").fault("5040500" + off, 6)
          .bytes(1536, "0102030405060708");
    }
  }

  private static void halfwords() {
    with("48", 9, "8001").fine("48405000").has(4, -32767).cc(3);
    with("48 even", 9, "00007FFF").fine("48405002").has(4, 32767);
    with("4A", 5, "FFFF").fine("4A405000").has(4, 4).cc(2);
    with("4A wraps", MIN, "FFFF").fine("4A405000").has(4, MAX).cc(3);
    with("4A interrupts", MIN, "FFFF").set(Bench.MASK, 8).fault("4A405000", 8).has(4, MAX);
    with("49 greater", 5, "FFFF").fine("49405000").has(4, 5).cc(2);
    with("49 equal", -1, "FFFF").fine("49405000").cc(0);
    with("49 less", -2, "FFFF").fine("49405000").cc(1);
    with("40", 0x12345678, "EEEEEEEE").fine("40405002").bytes(1536, "EEEE567800").cc(3);
    with("48 odd", 9, "0102").fault("48405001", 6).has(4, 9);
    with("40 odd", 9, "010203").fault("40405001", 6).bytes(1536, "010203");
    with("4B is none", 9, "0102").fault("4B405000", 1);
  }

  private static void bytes() {
    with("43", 0x12345678, "EEFF").fine("43405001").has(4, 0x123456FF).cc(3);
    with("43 over other bits", 0x123456FF, "00").fine("43405000").has(4, 0x12345600);
    with("42", 0x12345678, "EEEEEE").fine("42405001").bytes(1536, "EE78EE").cc(3);
    new Bench("43 at the end").put(2047, "5A").fine("434007FF").has(4, 0x5A);
    new Bench("43 beyond").set(1, 1).fault("434017FF", 5).has(4, 0);
  }

  private static void branches() {
    for (int r = 0; r < 16; r++) {
      for (int cc = 0; cc < 4; cc++) {
        int taken = (r & 8 >> cc) != 0 ? 0x235 : 1028;
        new Bench("47 " + r + " " + cc).set(3, 0x10005).set(Bench.CC, cc)
            .fine("47" + Integer.toHexString(r) + "03230").has(Bench.ADDRESS, taken).cc(cc);
      }
    }
    new Bench("45").set(3, 0x30000).fine("45433204").has(4, 1028).has(Bench.ADDRESS, 0x204);
    new Bench("45 by the same").set(4, 0x100).fine("45404004").has(4, 1028).has(Bench.ADDRESS, 0x104);
    Bench bench = new Bench("46").set(4, 2).set(Bench.CC, 1);
    bench.fine("46400200").has(4, 1).has(Bench.ADDRESS, 0x200);
    bench.fine("46400200").has(4, 0).has(Bench.ADDRESS, 1028);
    bench.fine("46400200").has(4, -1).has(Bench.ADDRESS, 0x200).cc(1);
    bench.set(4, MIN).fine("46400200").has(4, MAX).has(Bench.ADDRESS, 0x200);
    bench.set(4, 0x300).fine("46404001").has(4, 0x2FF).has(Bench.ADDRESS, 0x301);
  }

  private static void conversions() {
    with("4E", -12345, "EEEEEEEEEEEEEEEEEE").fine("4E405000").bytes(1536, "000000000012345DEE").cc(3);
    with("4E of 0", 0, "EE").fine("4E405000").bytes(1536, "000000000000000C");
    with("4E least", MIN, "EE").fine("4E405000").bytes(1536, "000002147483648D");
    with("4E most", MAX, "EE").fine("4E405000").bytes(1536, "000002147483647C");
    with("4E at 4", 9, "EE").fault("4E405004", 6).bytes(1536, "EE00");
    with("4F", 9, "000000000012345D").fine("4F405000").has(4, -12345).cc(3);
    with("4F least", 9, "000002147483648B").fine("4F405000").has(4, MIN);
    with("4F most", 9, "000002147483647F").fine("4F405000").has(4, MAX);
    with("4F too much", 9, "000002147483648A").fault("4F405000", 9).has(4, 9);
    with("4F too little", 9, "000002147483649D").fault("4F405000", 9).has(4, 9);
    with("4F far too much", 9, "999999999999999C").fault("4F405000", 9).has(4, 9);
    with("4F with its highest digit", 9, "100000000000000C").fault("4F405000", 9).has(4, 9);
    with("4F of negative 0", 9, "000000000000000D").fine("4F405000").has(4, 0);
    with("4F digit", 9, "00A000000000000C").fault("4F405000", 7).has(4, 9);
    with("4F digit and too much", 9, "99999999999999AC").fault("4F405000", 7);
    with("4F sign", 9, "0000000000000009").fault("4F405000", 7).has(4, 9);
    with("4F at 4", 9, "0000000000000000000C").fault("4F405004", 6);
  }

  private static void shifts() {
    with("88", MIN, "00").fine("8840001F").has(4, 1).cc(3).fine("88400001").has(4, 0);
    with("88 by 32", -1, "00").fine("88400020").has(4, 0);
    with("88 by 64", -1, "00").fine("88400040").has(4, -1);
    with("88 by register", -1, "00").set(6, 60).fine("88406020").has(4, 0xF);
    with("89", 3, "00").fine("8940001F").has(4, MIN).cc(3);
    with("89 by 63", -1, "00").fine("8940003F").has(4, 0);
    with("8A", -8, "00").fine("8A400001").has(4, -4).cc(1);
    with("8A by 33", -8, "00").fine("8A400021").has(4, -1).cc(1);
    with("8A by 63", MAX, "00").fine("8A40003F").has(4, 0).cc(0);
    with("8A by 0", 7, "00").fine("8A4F0000").has(4, 7).cc(2);
    with("the second half names no index", 7, "00").set(6, 1).fine("89460001").has(4, 14);
    with("8B is none", 7, "00").fault("8B400001", 1);
  }

  private static void manyRegisters() {
    Bench bench = new Bench("90");
    bench.set(14, 1).set(15, 2).set(0, 3).set(1, 4).set(5, 1536).set(Bench.CC, 2);
    bench.put(1552, "EE").fine("90E15000").cc(2);
    bench.bytes(1536, "00000001 00000002 00000003 00000004 EE");
    bench.fine("90555004").word(1540, 1536).fine("98555004").has(5, 1536);
    bench.put(1536, "00000011 00000012 00000013").set(7, 7).fine("98465000");
    bench.has(4, 0x11).has(5, 0x12).has(6, 0x13).has(7, 7).has(3, 0);
    Bench all = new Bench("98 of all").put(0x600, "00000001");
    all.fine("98430600").has(4, 1).has(3, 0).fault("98430602", 6).fault("984307C4", 5);
    all.has(4, 1).fine("984307C0").has(4, 0);
    new Bench("90 odd").fault("90430601", 6);
  }

  private static void immediates() {
    with("92", 0, "EEEEEE").fine("92775001").bytes(1536, "EE77EE").cc(3);
    with("94", 0, "F0F0").fine("943C5001").bytes(1536, "F030").cc(1);
    with("94 zero", 0, "F0").fine("940F5000").bytes(1536, "00").cc(0);
    with("96", 0, "F0").fine("963C5000").bytes(1536, "FC").cc(1);
    with("96 zero", 0, "00").fine("96005000").bytes(1536, "00").cc(0);
    with("95 equal", 0, "F0").fine("95F05000").cc(0);
    with("95 less", 0, "70").fine("95F05000").cc(1).bytes(1536, "70");
    with("95 greater", 0, "F0").fine("95705000").cc(2);
    with("91 none", 0, "F0").fine("910F5000").cc(0);
    with("91 of no bits", 0, "F0").fine("91005000").cc(0);
    with("91 all", 0, "F0").fine("91305000").cc(3);
    with("91 some", 0, "F0").fine("91185000").cc(1).bytes(1536, "F0");
    with("97 is none", 0, "F0").fault("97185000", 1);
    for (String op : new String[] {"92", "94", "95", "96", "91"}) {
      new Bench(op + " beyond").set(1, 2048).set(Bench.CC, 2).fault(op + "011000", 5)
          .word(40, 0x00020005);
    }
  }

  private static void statusLoaded() {
    Bench bench = new Bench("82").put(1536, "EB A6 FFFF FFFF 8123").set(5, 1536);
    bench.fine("82005000").has(Bench.MASK, 11).has(Bench.KEY, 10).cc(2).has(Bench.ADDRESS, 0x8123);
    new Bench("82 at 4").set(5, 1536).fault("82005004", 6);
    new Bench("82 beyond").set(5, 2048).fault("82005000", 5);
    new Bench("82 odd and beyond").set(5, 2048).fault("82005001", 6);
    new Bench("82 in PROBLEM").set(Bench.MASK, 4).set(5, 2048).fault("82005001", 2);
  }
}
