/** The boundary cases of promises 1 to 11; "says" are the document's words that a test stands for. */
public final class PromiseSentencesTest {
  private static final int MIN = Integer.MIN_VALUE;
  private static final int MAX = Integer.MAX_VALUE;

  public static void main(String[] args) {
    newObject();
    fiveHundredAndTwelveCalls();
    loadOfLowestBytes();
    loadRefused();
    wordAnywhere();
    setCutsValues();
    setRefused();
    getOfNothing();
    punchAppends();
    punchRefused();
    cardOfAnEmptyRecord();
    cardRefused();
    stepCounts();
    stepRefused();
    channelStops();
    channelRefused();
    lookAtWhatWaits();
    lookAtCounts();
    lookAtTheCode();
    lookAtNothing();
    printedBytes();
    Bench.finish();
  }

  private static void newObject() {
    String says = "All storage, keys, registers, the STATUS 0; no records, no lines.";
    for (int block = 0; block < 8; block++) {
      Bench bench = new Bench(says + " Block " + block);
      for (int address = 256 * block; address < 256 * block + 256; address += 4) {
        bench.word(address, 0);
      }
      for (int what = 0; what < 28; what++) {
        bench.has(what, 0);
      }
      bench.looks(3, 0).looks(4, 0).looks(5, 0).prints(0, -1);
    }
    new Bench(says).chain("02000600 00000001").start(1).runs(1, "00000308 0D000001");
  }

  private static void fiveHundredAndTwelveCalls() {
    String says = "An object is used for at most 512 calls after it has been made";
    Bench steps = new Bench(says + ": steps").put(0x400, "47F00400").set(Bench.ADDRESS, 0x400);
    for (int k = 0; k < 508; k++) {
      steps.steps(50, 0);
    }
    steps.looks(6, 25400).word(80, -25400);
    Bench moves = new Bench(says + ": moves").chain("01000600 80000100 08000300").start(2);
    for (int k = 0; k < 500; k++) {
      moves.moves(50, 50);
    }
    // Every round takes the word, moves 256 bytes and jumps back: 258 moves.
    moves.looks(5, 25000 / 258 * 256 + 25000 % 258 - 1).looks(4, 1);
  }

  private static void loadOfLowestBytes() {
    String says = "Puts the lowest n bytes of a number from an address on, the highest of them first";
    String number = "F1E2D3C4B5A69788";
    for (int n = 1; n <= 8; n++) {
      for (int address : new int[] {0, 1, 255, 2048 - n}) {
        Bench bench = new Bench(says + ": " + n + " at " + address);
        bench.due("load", bench.frame.load(address, 0xF1E2D3C4B5A69788L, n), true);
        bench.bytes(address, number.substring(16 - 2 * n)).bytes(address - 1, "00").bytes(address + n, "00");
      }
    }
    Bench keyed = new Bench("whatever the keys").set(Bench.KEY, 3);
    for (int block = 0; block < 8; block++) {
      keyed.set(Bench.BLOCK + block, 4 + block).put(256 * block, "AB").bytes(256 * block, "AB");
    }
  }

  private static void loadRefused() {
    String says = "false (refused) if n is not 1 .. 8 or a byte lies not in storage";
    for (int n : new int[] {0, -1, 9, 16, MIN, MAX}) {
      Bench bench = new Bench(says + ": n " + n);
      bench.due("load", bench.frame.load(0, -1L, n), false).word(0, 0).word(4, 0).word(8, 0);
    }
    for (int n = 1; n <= 8; n++) {
      Bench bench = new Bench(says + ": " + n + " bytes");
      for (int address : new int[] {-1, -n, MIN, 2049 - n, 2047 + n, 2048, MAX - n, MAX - n + 1, MAX}) {
        if (address != 2047 || n != 1) {
          bench.due("load at " + address, bench.frame.load(address, -1L, n), false);
        }
      }
      bench.word(0, 0).word(2040, 0).word(2044, 0);
    }
  }

  private static void wordAnywhere() {
    String says = "The word that begins at an address (any; bytes beyond storage are 0).";
    Bench bench = new Bench(says).put(0, "A1A2A3A4A5A6A7").put(2044, "B1B2B3B4");
    bench.word(0, 0xA1A2A3A4).word(1, 0xA2A3A4A5).word(2, 0xA3A4A5A6).word(3, 0xA4A5A6A7);
    bench.word(-1, 0x00A1A2A3).word(-2, 0x0000A1A2).word(-3, 0x000000A1).word(-4, 0);
    bench.word(2044, 0xB1B2B3B4).word(2045, 0xB2B3B400).word(2046, 0xB3B40000);
    bench.word(2047, 0xB4000000).word(2048, 0).word(MAX, 0).word(MIN, 0);
    bench.word(65536, 0).word(-2048, 0).word(4096, 0);
  }

  private static void setCutsValues() {
    String says = "Sets a register (0 .. 15), the ADDRESS (16, its lowest 16 bits), KEY (17, & 15), MASK"
        + " (18, & 31), CC (19, & 3), or the KEY of block k (20 + k, & 15): true";
    int[] values = {0, 1, 3, 4, 15, 16, 31, 32, 65535, 65536, -1, -2, MIN, MAX};
    for (int value : values) {
      Bench bench = new Bench(says + ": " + value);
      for (int what = 0; what < 28; what++) {
        bench.set(what, value).has(what, value & bitsOf(what));
      }
      for (int what = 0; what < 28; what++) {
        bench.has(what, value & bitsOf(what));
      }
    }
  }

  private static int bitsOf(int what) {
    int[] statusBits = {65535, 15, 31, 3};
    return what < 16 ? -1 : what < 20 ? statusBits[what - 16] : 15;
  }

  private static final int[] NO_PART = {-1, -2, 28, 29, 36, 127, 128, 256, MIN, MAX};

  private static void setRefused() {
    String says = "false (refused) if there is none such";
    for (int wrong : NO_PART) {
      Bench bench = new Bench(says + ": " + wrong);
      bench.due("set", bench.frame.set(wrong, -1), false);
      for (int what = 0; what < 28; what++) {
        bench.has(what, 0);
      }
    }
  }

  private static void getOfNothing() {
    String says = "What set() sets; -1 if there is none such.";
    Bench bench = new Bench(says);
    for (int what = 0; what < 28; what++) {
      bench.set(what, what + 1);
    }
    for (int wrong : NO_PART) {
      bench.has(wrong, -1);
    }
    for (int what = 0; what < 28; what++) {
      bench.has(what, what + 1 & bitsOf(what));
    }
  }

  /** Reads the next record to 0x600, whatever its length. */
  private static Bench read(Bench bench) {
    bench.put(0x600, "EEEEEEEEEEEEEEEE EEEEEEEEEEEEEEEE EE").chain("02000600 20000020").start(1);
    bench.frame.channel(50);
    return bench.looks(0, 0).fine("9D000000").cc(1);
  }

  private static void punch(Bench bench, long number, int n, boolean answer) {
    bench.due("punch of " + n, bench.frame.punch(number, n), answer);
  }

  private static void card(Bench bench, boolean answer) {
    bench.due("card", bench.frame.card(), answer);
  }

  private static void punchAppends() {
    String says = "Appends the lowest n bytes of a number, the highest first, to the record that is being made";
    for (int n = 1; n <= 8; n++) {
      Bench bench = new Bench(says + ": " + n);
      punch(bench, 0xF1E2D3C4B5A69788L, n, true);
      punch(bench, -2L, 1, true);
      card(bench, true);
      read(bench).bytes(0x600, "F1E2D3C4B5A69788".substring(16 - 2 * n) + "FE EE");
    }
  }

  private static void punchRefused() {
    String says = "false (refused) if n is not 1 .. 8 or it would have more than 16";
    for (int n : new int[] {0, -1, 9, 16, 17, MIN, MAX}) {
      Bench bench = new Bench(says + ": n " + n);
      punch(bench, -1L, n, false);
      card(bench, true);
      read(bench).bytes(0x600, "EE");
    }
    for (int n = 1; n <= 8; n++) {
      Bench bench = new Bench(says + ": one more than room for " + (n - 1));
      punch(bench, 0x0102030405060708L, 8, true);
      punch(bench, 0x090A0B0C0D0E0F10L >>> 8 * (n - 1), 9 - n, true);
      punch(bench, -1L, n, false);
      if (n > 1) {
        punch(bench, 0x090A0B0C0D0E0F10L, n - 1, true);
      }
      punch(bench, -1L, 1, false);
      card(bench, true);
      read(bench).bytes(0x600, "0102030405060708 090A0B0C0D0E0F10 EE");
    }
  }

  private static void cardOfAnEmptyRecord() {
    String says = "The record that is being made (it can be empty) goes behind those that wait";
    Bench bench = new Bench(says);
    card(bench.looks(3, 0), true);
    punch(bench.looks(3, 1), 0xC1L, 1, true);
    card(bench.looks(3, 1), true);
    card(bench.looks(3, 2), true);
    read(bench.looks(3, 3)).bytes(0x600, "EE").looks(3, 2);
    read(bench).bytes(0x600, "C1EE").looks(3, 1);
    read(bench).bytes(0x600, "EE").looks(3, 0);
  }

  private static void cardRefused() {
    String says = "false (refused) if eight wait";
    Bench bench = new Bench(says);
    for (int k = 1; k <= 8; k++) {
      punch(bench, k, 1, true);
      card(bench, true);
    }
    punch(bench.looks(3, 8), 9L, 1, true);
    card(bench, false);
    punch(bench.looks(3, 8), 0xCAL, 1, true);
    card(bench, false);
    read(bench.looks(3, 8)).bytes(0x600, "01EE").looks(3, 7);
    card(bench, true);
    card(bench.looks(3, 8), false);
    for (int k = 2; k <= 8; k++) {
      read(bench).bytes(0x600, "0" + k + "EE");
    }
    read(bench).bytes(0x600, "09CAEE").looks(3, 0);
  }

  private static void stepCounts() {
    String says = "Makes n steps: how many PROGRAM interruptions there were";
    Bench all = new Bench(says).steps(1, 1).looks(6, 1).steps(50, 50).looks(6, 51);
    all.looks(7, 1);
    Bench none = new Bench(says + ": none").put(0x400, "47F00400").set(Bench.ADDRESS, 0x400);
    none.steps(50, 0).looks(6, 50).steps(1, 0).looks(6, 51);
    Bench others = new Bench(says + ": SUPERVISOR is none").put(96, "0000000000000400").put(0x400, "0A01");
    others.set(Bench.ADDRESS, 0x400).steps(50, 0).word(36, 0x402);
  }

  private static final int[] NOT_1_TO_50 = {0, -1, 51, 52, 100, 256, MIN, MAX};

  private static void stepRefused() {
    String says = "-1 (refused) if n is not 1 .. 50.";
    Bench bench = new Bench(says + " step").put(80, "00000000").set(Bench.MASK, 1);
    for (int n : NOT_1_TO_50) {
      bench.steps(n, -1).looks(6, 0).looks(7, 0).looks(2, 0).word(80, 0).has(Bench.ADDRESS, 0);
    }
    bench.steps(1, 1).steps(50, 50).looks(6, 51);
  }

  private static void channelStops() {
    String says = "Makes at most n moves of the channel, as long as it works: how many";
    Bench bench = new Bench(says).chain("01000600 00000032").moves(1, 0).moves(50, 0).start(2);
    bench.moves(1, 1).looks(5, 0).moves(50, 50).looks(5, 50).looks(0, 0).moves(1, 0).moves(50, 0);
    new Bench(says + ": exactly").chain("01000600 00000031").start(2).moves(50, 50).looks(0, 0);
    new Bench(says + ": one is left").chain("01000600 00000032").start(2).moves(50, 50).looks(0, 1)
        .moves(50, 1).looks(0, 0);
  }

  private static void channelRefused() {
    String says = "-1 (refused) if n is not 1 .. 50.";
    Bench idle = new Bench(says + " channel that does not work");
    Bench bench = new Bench(says + " channel").chain("01000600 00000002").start(2).moves(2, 2);
    for (int n : NOT_1_TO_50) {
      idle.moves(n, -1);
      bench.moves(n, -1).looks(0, 1).looks(4, 1).looks(5, 1);
    }
    bench.moves(50, 1);
  }

  private static void lookAtWhatWaits() {
    String says = "1 if the channel works (what = 0), if CHANNEL waits (1), if EXTERNAL waits (2), else 0";
    Bench bench = new Bench(says).chain("01000600 00000001").put(80, "00000002");
    bench.looks(0, 0).looks(1, 0).looks(2, 0).start(2).looks(2, 0).moves(1, 1).looks(0, 1).looks(1, 0);
    bench.moves(1, 1).looks(0, 0).looks(1, 1).looks(2, 0).fine("1800").looks(2, 0);
    bench.fine("1800").looks(0, 0).looks(1, 1).looks(2, 1);
    bench.set(Bench.MASK, 1).steps(1, 0).looks(1, 1).looks(2, 0);
    bench.set(Bench.MASK, 2).steps(1, 0).looks(1, 0).looks(2, 0).looks(0, 0);
  }

  private static void lookAtCounts() {
    String says = "the records that wait (3); the lines that were begun (4); the bytes put to the latest line"
        + " (5); the steps made (6)";
    Bench bench = new Bench(says).chain("01000600 40000028 01000600 00000003");
    bench.record("").looks(3, 1).record("C1").looks(3, 2).looks(6, 0).start(2).looks(6, 1);
    bench.looks(4, 0).looks(5, 0).moves(1, 1).looks(4, 1).looks(5, 0).moves(40, 40).looks(5, 40);
    bench.moves(1, 1).looks(4, 2).looks(5, 0).moves(50, 3).looks(4, 2).looks(5, 3).looks(3, 2);
    bench.put(80, "00000000").fault("0000", 1).looks(6, 2).set(Bench.MASK, 1).steps(1, 0).looks(6, 3);
  }

  private static void lookAtTheCode() {
    String says = "the latest PROGRAM interruption's code, 0 before (7)";
    Bench bench = new Bench(says).looks(7, 0).fine("1800").looks(7, 0).fine("0A05").looks(7, 0);
    bench.fault("58000001", 6).looks(7, 6).fault("0000", 1).looks(7, 1).fine("1800").looks(7, 1);
    bench.fine("0A05").looks(7, 1);
  }

  private static void lookAtNothing() {
    String says = "-1 for another what";
    Bench bench = new Bench(says);
    for (int what : new int[] {-1, 8, 9, 15, 16, 64, 256, MIN, MAX}) {
      bench.looks(what, -1);
    }
  }

  private static void printedBytes() {
    String says = "Byte k of the latest line; -1 if it is none of its first 32.";
    Bench bench = new Bench(says).chain("01000600 40000021 01000601 00000002");
    bench.put(0x600, "FF007F80").put(0x61E, "C1C2C3");
    bench.prints(0, -1).start(2).moves(1, 1).prints(0, -1).moves(1, 1).prints(0, 255).prints(1, -1);
    bench.moves(3, 3).prints(1, 0).prints(2, 127).prints(3, 128).prints(4, -1);
    bench.moves(27, 27).prints(30, 0xC1).prints(31, -1).moves(1, 1).prints(31, 0xC2).prints(32, -1);
    bench.moves(1, 1).looks(5, 33).prints(31, 0xC2).prints(32, -1).prints(33, -1);
    for (int k : new int[] {-1, -32, 64, 256, MIN, MAX}) {
      bench.prints(k, -1);
    }
    bench.moves(1, 1).looks(4, 2).prints(0, -1).moves(50, 2).prints(0, 0).prints(1, 127).prints(2, -1);
  }
}
