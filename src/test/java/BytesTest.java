/** Promise 8, instructions of six bytes for rows of bytes. */
public final class BytesTest {
  public static void main(String[] args) {
    moves();
    comparisons();
    translations();
    Bench.finish();
  }

  private static void moves() {
    Bench bench = new Bench("D2").set(Bench.CC, 2).put(1536, "0102030405");
    bench.fine("D202 0610 0600").bytes(0x610, "01020300").cc(2);
    bench.has(Bench.ADDRESS, 1030);
    new Bench("D2 to the right").put(1536, "0102030405").fine("D203 0601 0600")
        .bytes(1536, "0101010101");
    new Bench("D2 to the left").put(1536, "0102030405").fine("D203 0600 0601")
        .bytes(1536, "0203040505");
    Bench whole = new Bench("D2 of 256").put(0x600, "AA").put(0x6FF, "BBCC");
    whole.fine("D2FF 0500 0600").bytes(0x500, "AA00").bytes(0x5FF, "BBAA");
    new Bench("D2 first beyond").set(1, 0x700).fault("D2FF 1001 0600", 5);
    new Bench("D2 second beyond").set(1, 0x700).put(0x7FF, "AB").fault("D2FF 0500 1001", 5)
        .bytes(0x5FE, "0000");
    new Bench("D2 up to the end").set(1, 0x700).put(0x7FF, "AB").fine("D2FF 0500 1000")
        .bytes(0x5FE, "00AB");
  }

  private static void comparisons() {
    Bench bench = new Bench("D5").put(1536, "01800304").put(1552, "017F0304").set(1, 1552);
    bench.fine("D500 0600 1000").cc(0).fine("D503 0600 1000").cc(2).fine("D503 1000 0600").cc(1);
    bench.fine("D501 0602 1002").cc(0).bytes(1536, "01800304").bytes(1552, "017F0304");
    new Bench("D5 by the first that differs").put(1536, "01FF").put(1552, "0200").fine("D501 0600 0610")
        .cc(1);
    new Bench("D5 without sign").put(1536, "FF").put(1552, "01").fine("D500 0600 0610").cc(2);
    new Bench("D5 of 256").put(0x6FF, "01").fine("D5FF 0600 0500").cc(2);
    new Bench("D5 first beyond").set(1, 0x7FF).set(Bench.CC, 2).fault("D501 1000 0600", 5)
        .word(40, 0x00020005);
    new Bench("D5 second beyond").set(1, 0x7FF).fault("D501 0600 1000", 5);
    new Bench("D5 needs no key").set(Bench.KEY, 3).set(Bench.BLOCK + 6, 4).fine("D501 0600 0610");
  }

  private static void translations() {
    Bench bench = new Bench("DC").put(0x500, "A0A1A2A3").put(0x5FF, "AF").set(Bench.CC, 3);
    bench.put(0x700, "0301FF0200").fine("DC03 0700 0500").bytes(0x700, "A3A1AFA200").cc(3);
    Bench inside = new Bench("DC in its own table").put(0x600, "0201030000");
    inside.fine("DC02 0600 0600").bytes(0x600, "0301000000");
    new Bench("DC table up to the end").set(1, 0x700).put(0x7FF, "77").put(0x600, "FF")
        .fine("DC00 0600 1000").bytes(0x600, "7700");
    new Bench("DC table beyond").set(1, 0x701).put(0x600, "01").fault("DC00 0600 1000", 5)
        .bytes(0x600, "01");
    new Bench("DC first beyond").set(1, 0x7FF).fault("DC01 1000 0500", 5);
  }
}
