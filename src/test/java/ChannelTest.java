/** Promise 9, and START and the question 9D of promise 8: the channel and its chains. */
public final class ChannelTest {
  private static final int CHAIN = Bench.CHAIN;

  public static void main(String[] args) {
    starting();
    asking();
    reading();
    lengths();
    emptyRecords();
    skipping();
    dataChains();
    jumps();
    wrongWords();
    wrongPlaces();
    protection();
    printing();
    commandChains();
    counts();
    Bench.finish();
  }

  /** A chain of command words at CHAIN, with the channel's key 0. */
  private static Bench chain(String title, String words) {
    return new Bench(title).chain(words);
  }

  private static Bench start(Bench bench, int device) {
    return bench.start(device);
  }

  /** What stands at 64 once the channel has ended. */
  private static Bench ended(Bench bench, String report) {
    return bench.ended(report);
  }

  private static void starting() {
    for (int device : new int[] {0, 3, 8, 255}) {
      chain("START " + device, "02000600 00000001").fine(String.format("9C%02X0000", device)).cc(3)
          .looks(0, 0);
    }
    Bench bench = start(chain("START twice", "02000600 00000001"), 1);
    bench.fine("9C010000").cc(2).fine("9C020000").cc(2).fine("9C030000").cc(3).moves(9, 1);
    ended(bench, "00000308 0D000001").fine("9C020000").cc(2).fine("9C000000").cc(3).looks(1, 1);
    start(bench.fine("9D000000").cc(1), 2).fine("9D000000").cc(2);
    Bench key = new Bench("upper bits").put(72, "AF000300").put(CHAIN, "02000600 00000001");
    ended(start(key, 1).moves(9, 1), "A0000308 0D000001");
    start(new Bench("operand does not matter").set(5, 0x7FFFFF), 1);
    new Bench("operand is no place").set(5, 0x7FFFFF).fine("9C015001").cc(0);
  }

  private static void asking() {
    Bench bench = chain("9D", "02000600 00000001").fine("9D000000").cc(0);
    start(bench, 1).fine("9D000000").cc(2).looks(0, 1).moves(1, 1).looks(1, 1);
    bench.fine("9D000000").cc(1).looks(1, 0).fine("9D000000").cc(0);
  }

  private static void reading() {
    Bench bench = chain("reading", "02000600 00000003").record("C1C2C3");
    start(bench, 1).looks(3, 1).moves(1, 1).looks(3, 0).bytes(0x600, "00").moves(1, 1);
    bench.bytes(0x600, "C100").moves(1, 1).bytes(0x600, "C1C200").looks(0, 1).bytes(64, "00000000");
    ended(bench.moves(50, 1).bytes(0x600, "C1C2C300"), "00000308 0C000000").moves(50, 0);
    Bench none = chain("no record", "02000600 FF000007");
    ended(start(none, 1).moves(50, 1), "00000308 0D000007").looks(3, 0);
    Bench sixteen = chain("sixteen", "02000600 00000010").record("000102030405060708090A0B0C0D0E0F");
    ended(start(sixteen, 1).moves(50, 17), "00000308 0C000000")
        .bytes(0x600, "000102030405060708090A0B0C0D0E0F00");
  }

  private static void lengths() {
    Bench left = chain("bytes left", "02000600 00000002").record("C1C2C3");
    ended(start(left, 1).moves(50, 3), "00000308 0C400000").bytes(0x600, "C1C200");
    Bench fewer = chain("COUNT left", "02000600 00000105").record("C1C2");
    ended(start(fewer, 1).moves(50, 3), "00000308 0C400103");
    Bench noChain = chain("CHECK 64 ends a chain", "02000600 40000002 02000600 00000001");
    ended(start(noChain.record("C1C2C3").record("C4"), 1).moves(50, 3), "00000308 0C400000").looks(3, 1);
    Bench any = chain("any length, left", "02000600 20000002").record("C1C2C3");
    ended(start(any, 1).moves(50, 3), "00000308 0C000000");
    Bench anyFewer = chain("any length, COUNT left", "02000600 60000005 02000610 00000001");
    ended(start(anyFewer.record("C1C2").record("C3"), 1).moves(50, 5), "00000310 0C000000")
        .bytes(0x600, "C1C200").bytes(0x610, "C300");
    Bench low = chain("low flags mean nothing", "02000600 0FFF0001").record("C1C2");
    ended(start(low, 1).moves(50, 2), "00000308 0C400000").bytes(0x600, "C100");
    Bench lowEnd = chain("low flags chain nothing", "02000600 0FFF0001").record("C1");
    ended(start(lowEnd, 1).moves(50, 2), "00000308 0C000000");
    Bench rest = chain("the rest is dropped", "02000600 60000001 02000610 20000001");
    ended(start(rest.record("C1C2").record("C3C4"), 1).moves(50, 4), "00000310 0C000000")
        .bytes(0x600, "C100").bytes(0x610, "C300");
  }

  private static void emptyRecords() {
    Bench plain = chain("empty", "02000600 00000005").record("");
    ended(start(plain, 1).moves(50, 1), "00000308 0C400005").looks(3, 0);
    Bench any = chain("empty, any length", "02000600 20000005").record("");
    ended(start(any, 1).moves(50, 1), "00000308 0C000005");
    Bench chained = chain("empty, data chain", "02000600 A0000005 02000600 00000001").record("");
    ended(start(chained.record("C1"), 1).moves(50, 1), "00000308 0C000005").looks(3, 1);
    Bench command = chain("empty, command chain", "02000600 E0000005 02000600 00000001").record("");
    ended(start(command.record("C1"), 1).moves(50, 3), "00000310 0C000000").bytes(0x600, "C1");
  }

  private static void skipping() {
    Bench bench = chain("SKIP", "02000600 90000002 00000601 00000001").record("C1C2C3");
    ended(start(bench, 1).moves(50, 5), "00000310 0C000000").bytes(0x600, "00C300");
    Bench closed = new Bench("SKIP looks at no key").put(72, "30000300").set(Bench.BLOCK + 6, 4);
    ended(start(closed.put(CHAIN, "02000600 10000002").record("C1C2"), 1).moves(50, 3),
        "30000308 0C000000").bytes(0x600, "0000");
    Bench beyond = chain("SKIP beyond", "020007FF 10000002").record("C1C2");
    ended(start(beyond, 1).moves(50, 3), "00000308 00200001");
    Bench print = chain("SKIP for the printer", "01000600 10000001").put(0x600, "C1");
    ended(start(print, 2).moves(50, 2), "00000308 0C000000").prints(0, 0xC1).looks(5, 1);
  }

  private static void dataChains() {
    Bench bench = chain("data chain", "02000600 80000001 FF000610 00000002").record("C1C2C3");
    start(bench, 1).moves(2, 2).bytes(0x600, "C100").moves(1, 1).bytes(0x610, "00");
    ended(bench.moves(50, 2).bytes(0x610, "C2C300"), "00000310 0C000000");
    Bench over = chain("record over with COUNT", "02000600 80000002 02000610 00000001").record("C1C2");
    ended(start(over.record("C3"), 1).moves(50, 3), "00000308 0C000000").looks(3, 1);
    Bench next = chain("then a command chain", "02000600 C0000002 02000610 00000001").record("C1C2");
    ended(start(next.record("C3"), 1).moves(50, 5), "00000310 0C000000").bytes(0x610, "C300");
    Bench own = chain("then a command of its own", "02000600 C0000002 FF000610 00000001");
    ended(start(own.record("C1C2").record("C3"), 1).moves(50, 4), "00000310 00200001");
    Bench shorter = chain("record over before COUNT", "02000600 80000005").record("C1C2");
    ended(start(shorter, 1).moves(50, 3), "00000308 0C400003");
    Bench last = chain("flags of the last one", "02000600 A0000001 00000601 00000005").record("C1C2");
    ended(start(last, 1).moves(50, 4), "00000310 0C400004").bytes(0x600, "C1C2");
    Bench zero = chain("COUNT 0 behind it", "02000600 80000001 02000601 00000000").record("C1C2");
    ended(start(zero, 1).moves(50, 3), "00000310 00200000").bytes(0x600, "C100");
    Bench printer = chain("printer", "01000600 80000001 02000602 00000001").put(0x600, "C1C2C3");
    ended(start(printer, 2).moves(50, 4), "00000310 0C000000").looks(4, 1).looks(5, 2).prints(1, 0xC3);
    Bench ends = chain("chain behind a data chain", "01000600 80000001 00000600 40000001 01000600 00000001");
    ended(start(ends, 2).moves(50, 6), "00000318 0C000000").looks(4, 2).looks(5, 1);
    Bench wrong = chain("no command behind both", "01000600 80000001 00000600 40000001 00000600 00000001");
    ended(start(wrong, 2).moves(50, 5), "00000318 00200001").looks(4, 1);
  }

  private static void jumps() {
    Bench bench = chain("jump", "08000340 00000000").put(0x340, "01000600 00000002");
    start(bench, 2).moves(1, 1).looks(4, 0).moves(1, 1).looks(4, 1);
    ended(bench.moves(50, 2), "00000348 0C000000");
    Bench flags = chain("flags of a jump", "08000340 FFFFFFFF").put(0x340, "01000600 00000001");
    ended(start(flags, 2).moves(50, 3), "00000348 0C000000").looks(4, 1);
    Bench twice = chain("two jumps", "08000340 00000005").put(0x340, "08000350 00000007");
    ended(start(twice, 2).moves(50, 2), "00000348 00200007");
    Bench apart = chain("jumps with a command between", "08000340 00000000 01000601 00000001");
    apart.put(0x340, "01000600 40000001 08000308 00000000");
    ended(start(apart, 2).moves(50, 6), "00000310 0C000000").looks(4, 2);
    Bench data = chain("jump in a data chain", "02000600 80000001 08000340 00000000");
    data.put(0x340, "55000610 00000001").record("C1C2");
    ended(start(data, 1).moves(50, 5), "00000348 0C000000").bytes(0x610, "C2");
    Bench dataTwice = chain("two jumps in a data chain", "02000600 80000001 08000340 00000000");
    dataTwice.put(0x340, "08000610 00000001").record("C1C2");
    ended(start(dataTwice, 1).moves(50, 4), "00000348 00200001");
    Bench odd = chain("jump to an odd place", "08000341 00000009");
    ended(start(odd, 2).moves(50, 2), "00000349 00200000");
    Bench again = chain("a jump before does not count at START", "08000341 00000009");
    ended(start(again, 2).moves(50, 2), "00000349 00200000").fine("9D000000").put(72, "00000300");
    ended(start(again, 2).moves(50, 2), "00000349 00200000");
  }

  private static void wrongWords() {
    for (int command = 0; command < 256; command++) {
      for (int device = 1; device <= 2; device++) {
        if (command != 8 && command != 3 - device) {
          Bench bench = chain("command " + command, String.format("%02X000600 00000102", command));
          ended(start(bench.record("C1"), device).moves(50, 1), "00000308 00200102")
              .looks(3, 1).looks(4, 0);
        }
      }
    }
    Bench zero = chain("COUNT 0", "02000600 00FF0000").record("C1");
    ended(start(zero, 1).moves(50, 1), "00000308 00200000").looks(3, 1);
    Bench second = chain("wrong later", "02000600 40000001 09000600 00000005").record("C1");
    ended(start(second, 1).moves(50, 3), "00000310 00200005");
  }

  private static void wrongPlaces() {
    String[] wrong = {"000301", "000304", "0007F9", "000800", "FFFFF8", "FFFFFF"};
    String[] behind = {"000309", "00030C", "000801", "000808", "000000", "000007"};
    for (int k = 0; k < wrong.length; k++) {
      Bench bench = new Bench("chain at " + wrong[k]).put(72, "F0" + wrong[k]);
      bench.put(CHAIN, "0200060000000009 0200060000000009").record("C1");
      ended(start(bench, 1).moves(50, 1), "F0" + behind[k] + "00200000").looks(3, 1);
    }
    Bench last = new Bench("last place").put(72, "000007F8").put(0x7F8, "01000600 40000001");
    ended(start(last, 2).moves(50, 3), "00000808 00200000").looks(4, 1).looks(5, 1);
  }

  private static Bench keyed(String title, int key, int blockKey) {
    return new Bench(title).put(72, Integer.toHexString(key) + "0000300").set(Bench.BLOCK + 6, blockKey);
  }

  private static void protection() {
    Bench closed = keyed("closed", 3, 4).put(CHAIN, "02000600 20000002").record("C1C2");
    ended(start(closed, 1).moves(50, 2), "30000308 00100002").bytes(0x600, "0000");
    Bench zero = keyed("block with key 0", 3, 0).put(CHAIN, "02000600 20000002").record("C1C2");
    ended(start(zero, 1).moves(50, 2), "30000308 00100002");
    Bench open = keyed("open", 3, 3).put(CHAIN, "02000600 00000002").record("C1C2");
    ended(start(open, 1).moves(50, 3), "30000308 0C000000").bytes(0x600, "C1C2");
    Bench master = keyed("key 0", 0, 9).put(CHAIN, "02000600 00000002").record("C1C2");
    ended(start(master, 1).moves(50, 3), "00000308 0C000000").bytes(0x600, "C1C2");
    Bench across = keyed("across", 3, 4).set(Bench.BLOCK + 5, 3).put(CHAIN, "020005FF 00000002");
    ended(start(across.record("C1C2"), 1).moves(50, 3), "30000308 00100001").bytes(0x5FF, "C100");
    Bench print = keyed("printer", 3, 4).put(CHAIN, "01000600 00000002");
    ended(start(print, 2).moves(50, 3), "30000308 0C000000");
    Bench status = keyed("the STATUS has no say", 0, 4).set(Bench.KEY, 3).put(CHAIN, "02000600 00000001");
    ended(start(status.record("C1"), 1).moves(50, 2), "00000308 0C000000").bytes(0x600, "C1");
    Bench beyond = chain("reading beyond", "020007FF 00000003").record("C1C2C3");
    ended(start(beyond, 1).moves(50, 3), "00000308 00200002").bytes(0x7FF, "C1");
    Bench far = chain("printing beyond", "01FFFFFF 00000003");
    ended(start(far, 2).moves(50, 2), "00000308 00200003").looks(4, 1).looks(5, 0);
  }

  private static void printing() {
    Bench bench = chain("printing", "01000600 00000002").put(0x600, "C1C2C3");
    start(bench, 2).moves(1, 1).looks(4, 1).looks(5, 0).prints(0, -1).moves(1, 1).prints(0, 0xC1);
    ended(bench.moves(1, 1).prints(1, 0xC2).prints(2, -1), "00000308 0C000000").looks(5, 2);
    Bench readers = chain("records stay", "01000600 00000002").record("C1");
    ended(start(readers, 2).moves(50, 3), "00000308 0C000000").looks(3, 1);
  }

  private static void commandChains() {
    Bench bench = chain("lines", "01000600 40000002 01000602 40000001 01000603 00000001");
    bench.put(0x600, "C1C2C3C4");
    start(bench, 2).moves(3, 3).looks(4, 1).looks(5, 2).moves(1, 1).looks(4, 2).looks(5, 0);
    ended(bench.moves(50, 3).prints(0, 0xC4).prints(1, -1), "00000318 0C000000").looks(4, 3).looks(5, 1);
    Bench out = chain("records run out", "02000600 40000001 02000601 40000001").record("C1");
    ended(start(out, 1).moves(50, 3), "00000310 0D000001").bytes(0x600, "C100");
    Bench after = chain("another START", "02000600 00000001").record("C1").record("C2");
    ended(start(after, 1).moves(50, 2), "00000308 0C000000").fine("9D000000").cc(1);
    ended(start(after, 1).moves(50, 2), "00000308 0C000000").bytes(0x600, "C2").looks(3, 0);
    Bench midway = chain("START behind a command that broke", "010007FF 00000003");
    ended(start(midway, 2).moves(50, 3), "00000308 00200002").fine("9D000000");
    ended(start(midway, 2).moves(50, 3), "00000308 00200002").looks(4, 2).looks(5, 1);
    Bench missing = chain("START behind a missing record", "02000600 00000001");
    ended(start(missing, 1).moves(50, 1), "00000308 0D000001").fine("9D000000").record("C1");
    ended(start(missing, 1).moves(50, 2), "00000308 0C000000").bytes(0x600, "C1");
    Bench broken = chain("START behind a data chain that broke", "01000600 80000001 01000600 00000000");
    ended(start(broken, 2).moves(50, 3), "00000310 00200000").fine("9D000000").put(CHAIN, "FF");
    ended(start(broken, 2).moves(50, 1), "00000308 00200001").looks(4, 1);
  }

  private static void counts() {
    Bench bench = chain("channel", "01000600 00000064");
    bench.moves(1, 0).moves(0, -1).moves(51, -1);
    start(bench, 2);
    int[] wrong = {0, -1, 51, Integer.MIN_VALUE, Integer.MAX_VALUE};
    for (int n : wrong) {
      bench.moves(n, -1);
    }
    bench.looks(4, 0).moves(50, 50).looks(5, 49).moves(50, 50).looks(0, 1).moves(50, 1).looks(0, 0);
    bench.moves(50, 0).looks(5, 100);
  }
}
