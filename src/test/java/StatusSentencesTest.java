/** Boundary cases of STORAGE, REGISTERS, THE STATUS, INTERRUPTION and A STEP; "says" as elsewhere. */
public final class StatusSentencesTest {
  private static final String[] OF_WORDS = {"58", "50", "5A", "5B", "59", "98", "90"};
  private static final String[] OF_HALFWORDS = {"48", "40", "4A", "49"};

  public static void main(String[] args) {
    storageHas2048Bytes();
    blocksOf256();
    keysOf0To15();
    highestByteFirst();
    multiplesOfFourAndTwo();
    sixteenRegisters();
    maskBits();
    addressUpTo65535();
    statusInStorage();
    statusLoaded();
    placesOfTheClasses();
    placesHaveNoKeys();
    putBeforeLoaded();
    externalInterruption();
    channelInterruption();
    externalBeforeChannel();
    timerFalls();
    timerReachesMinusOne();
    timerStandsStill();
    lengths();
    addressIsBehind();
    addressWraps();
    Bench.finish();
  }

  private static void storageHas2048Bytes() {
    String says = "2048 bytes (0 at first)";
    Bench bench = new Bench(says).fine("43100000").has(1, 0).fine("431007FF").has(1, 0);
    bench.set(4, 0xAB).fine("42400000").bytes(0, "AB00").fine("424007FF").bytes(2046, "00AB");
    bench.set(5, 1).fault("424057FF", 5).word(2048, 0).bytes(0, "AB00");
  }

  /** One block is open for KEY 5: its first and last byte take a byte, their neighbours do not. */
  private static void blocksOf256() {
    String says = "8 BLOCKS of 256 with a KEY 0 .. 15 each";
    for (int block = 0; block < 8; block++) {
      Bench bench = new Bench(says + ": block " + block).set(Bench.KEY, 5).set(4, 0xAB);
      for (int other = 0; other < 8; other++) {
        bench.set(Bench.BLOCK + other, other == block ? 5 : 9);
      }
      int first = 256 * block;
      bench.set(5, first).fine("42405000").bytes(first, "AB");
      bench.set(5, first + 255).fine("42405000").bytes(first + 255, "AB");
      if (block > 0) {
        bench.set(5, first - 1).fault("42405000", 4).bytes(first - 1, "00").set(Bench.KEY, 5);
      }
      if (block < 7) {
        bench.set(5, first + 256).fault("42405000", 4).set(Bench.KEY, 5);
      }
    }
  }

  private static void keysOf0To15() {
    String says = "PROTECTION, if KEY is not 0 and not the block's";
    for (int key = 0; key < 16; key++) {
      for (int blockKey = 0; blockKey < 16; blockKey++) {
        Bench bench = new Bench(says + ": " + key + " and " + blockKey);
        bench.set(Bench.KEY, key).set(Bench.BLOCK + 6, blockKey).set(4, 0xAB);
        if (key == 0 || key == blockKey) {
          bench.fine("42400600").bytes(0x600, "AB");
        } else {
          bench.fault("42400600", 4).bytes(0x600, "00");
        }
      }
    }
  }

  private static void highestByteFirst() {
    String says = "Words (4 bytes) and halfwords (2) have the highest byte first";
    Bench bench = new Bench(says).set(4, 0xF1E2D3C4).fine("50400600").bytes(0x600, "F1E2D3C400");
    bench.fine("40400608").bytes(0x608, "D3C400").put(0x610, "8182838485").fine("58500610");
    bench.has(5, 0x81828384).fine("48500612").has(5, 0xFFFF8384);
  }

  private static void multiplesOfFourAndTwo() {
    String says = "a word lies at a multiple of 4, a halfword at an even address, else SPECIFICATION";
    for (int place = 0x600; place < 0x608; place++) {
      for (String op : OF_WORDS) {
        doAt(new Bench(says + ": word"), op, place, place % 4 == 0);
      }
      for (String op : OF_HALFWORDS) {
        doAt(new Bench(says + ": halfword"), op, place, place % 2 == 0);
      }
    }
  }

  private static void doAt(Bench bench, String op, int place, boolean right) {
    String code = String.format("%s44%04X", op, place - 0x600);
    bench.set(4, 0x600);
    if (right) {
      bench.fine(code);
    } else {
      bench.fault(code, 6).has(4, 0x600).word(0x600, 0).word(0x604, 0);
    }
  }

  private static void sixteenRegisters() {
    String says = "REGISTERS 0 .. 15: ints.";
    for (int k = 0; k < 16; k++) {
      int next = (k + 1) % 16;
      Bench bench = new Bench(says + " Register " + k).set(k, Integer.MIN_VALUE + k);
      bench.fine(String.format("18%X%X", next, k)).has(next, Integer.MIN_VALUE + k);
      bench.set(k, Integer.MAX_VALUE).has(k, Integer.MAX_VALUE).has(next, Integer.MIN_VALUE + k);
    }
  }

  /** Whether each of five things comes about is said by its own bit of MASK, and by no other. */
  private static void maskBits() {
    String says = "1 external interruptions allowed, 2 those of the channel, 4 PROBLEM, 8 OVERFLOW interrupts,"
        + " 16 DECIMAL OVERFLOW does";
    for (int mask = 0; mask < 32; mask++) {
      String title = says + ": " + mask;
      Bench external = new Bench(title).put(80, "00000000").fine("1800").looks(2, 1);
      external.set(Bench.MASK, mask).fine("1800").looks(2, (mask & 1) != 0 ? 0 : 1);
      Bench channel = channelWaits(new Bench(title), 2).set(Bench.MASK, mask).fine("1800");
      channel.looks(1, (mask & 2) != 0 ? 0 : 1);
      outcome(new Bench(title).set(Bench.MASK, mask), "0900", (mask & 4) != 0 ? 2 : 0);
      outcome(new Bench(title).set(Bench.MASK, mask).set(1, Integer.MAX_VALUE), "1A11",
          (mask & 8) != 0 ? 8 : 0);
      outcome(new Bench(title).set(Bench.MASK, mask).put(0x600, "9C"), "FA00 0600 0600",
          (mask & 16) != 0 ? 10 : 0);
    }
  }

  /** Lets the channel end at once; the timer is kept away from -1. */
  private static Bench channelWaits(Bench bench, int device) {
    return bench.put(72, "00000001").put(80, "00000064").start(device).moves(1, 1).looks(1, 1);
  }

  private static void outcome(Bench bench, String code, int fault) {
    if (fault == 0) {
      bench.fine(code);
    } else {
      bench.fault(code, fault);
    }
  }

  private static void addressUpTo65535() {
    String says = "an ADDRESS 0 .. 65535";
    Bench bench = new Bench(says).put(0x600, "0000000000000000").put(0x608, "000000000000FFFF");
    bench.fine("82000600").has(Bench.ADDRESS, 0).fine("82000608").has(Bench.ADDRESS, 65535);
    bench.set(Bench.ADDRESS, 65535).has(Bench.ADDRESS, 65535).set(Bench.ADDRESS, 65536).has(Bench.ADDRESS, 0);
  }

  private static void statusInStorage() {
    String says = "In storage it has eight bytes: MASK, KEY * 16 + CC, a code (2 bytes), 0, 0, ADDRESS (2).";
    Bench most = new Bench(says + " Most").put(39, "EE FFFFFFFFFFFFFFFF EE").set(Bench.MASK, 31);
    most.set(Bench.KEY, 15).set(Bench.CC, 3).set(Bench.ADDRESS, 65533).steps(1, 1);
    most.bytes(39, "EE 1F F3 0006 0000 FFFF EE");
    Bench least = new Bench(says + " Least").put(39, "EE FFFFFFFFFFFFFFFF EE").set(Bench.ADDRESS, 65534);
    least.steps(1, 1).bytes(39, "EE 00 00 0005 0000 0000 EE");
    Bench code = new Bench(says + " Code").put(31, "EE FFFFFFFFFFFFFFFF EE").fine("0AFF");
    code.bytes(31, "EE 00 00 00FF 0000 0402 EE");
  }

  private static void statusLoaded() {
    String says = "It is LOADED from there: MASK & 31, KEY, CC = the byte & 3, ADDRESS.";
    Bench bench = new Bench(says).put(0x600, "FF FF FFFF FFFF FFFF").fine("82000600");
    bench.has(Bench.MASK, 31).has(Bench.KEY, 15).cc(3).has(Bench.ADDRESS, 65535).set(Bench.MASK, 0);
    bench.put(0x600, "E0 0C FFFF FFFF 0000").fine("82000600");
    bench.has(Bench.MASK, 0).has(Bench.KEY, 0).cc(0).has(Bench.ADDRESS, 0);
    bench.put(0x600, "31 A6 0000 0000 8001").fine("82000600");
    bench.has(Bench.MASK, 17).has(Bench.KEY, 10).cc(2).has(Bench.ADDRESS, 0x8001);
  }

  /** The new places lead to addresses of their own; of the old places one alone is changed. */
  private static Bench withPlaces(String title) {
    Bench bench = new Bench(title).put(24, "E1E1E1E1E1E1E1E1E2E2E2E2E2E2E2E2E3E3E3E3E3E3E3E3");
    bench.put(48, "E4E4E4E4E4E4E4E4E5E5E5E5E5E5E5E5").put(88, "0011000000000510 0022000000000520");
    return bench.put(104, "0033000000000530 0000000000000540 0013000000000550");
  }

  private static final int[] OLD_PLACES = {24, 32, 40, 48, 56};

  private static void changedAlone(Bench bench, int place, String status, int newAddress) {
    for (int k = 0; k < OLD_PLACES.length; k++) {
      bench.bytes(OLD_PLACES[k], OLD_PLACES[k] == place ? status : ("E" + (k + 1)).repeat(8));
    }
    bench.has(Bench.ADDRESS, newAddress);
  }

  private static void placesOfTheClasses() {
    String says = "EXTERNAL 24 and 88, SUPERVISOR 32 and 96, PROGRAM 40 and 104, CHANNEL 56 and 120";
    Bench external = withPlaces(says + ": EXTERNAL").put(80, "00000000").fine("1800").looks(2, 1);
    changedAlone(external.set(Bench.MASK, 1).steps(1, 0), 24, "0100008000000402", 0x510);
    changedAlone(withPlaces(says + ": SUPERVISOR").fine("0A09"), 32, "0000000900000402", 0x520);
    changedAlone(withPlaces(says + ": PROGRAM").fault("0000", 1), 40, "0000000100000402", 0x530);
    Bench channel = channelWaits(withPlaces(says + ": CHANNEL"), 1);
    changedAlone(channel.set(Bench.MASK, 2).steps(1, 0), 56, "0200000100000404", 0x550);
  }

  private static void placesHaveNoKeys() {
    String says = "(These are not looked at for keys.)";
    Bench bench = withPlaces(says).set(Bench.KEY, 3).set(Bench.BLOCK, 4).fine("0A01").word(32, 0x00300001);
    bench.set(Bench.KEY, 3).fault("0000", 1).word(40, 0x00320001).set(Bench.KEY, 3).put(80, "00000000");
    bench.fine("1800").set(Bench.MASK, 1).steps(1, 0).word(24, 0x01330080);
    channelWaits(bench, 2).set(Bench.KEY, 3).set(Bench.MASK, 2).steps(1, 0);
    bench.word(56, 0x02300002).has(Bench.BLOCK, 4);
  }

  private static void putBeforeLoaded() {
    String says = "the STATUS is put at the class's old place, with that code, then loaded from its new place";
    Bench bench = withPlaces(says).set(Bench.MASK, 24).set(Bench.KEY, 6).set(Bench.CC, 3).fine("0AC7");
    bench.bytes(32, "18 63 00C7 0000 0402").has(Bench.MASK, 0).has(Bench.KEY, 2).cc(2);
    bench.has(Bench.ADDRESS, 0x520).bytes(96, "0022000000000520");
  }

  private static void externalInterruption() {
    String says = "if EXTERNAL waits and is allowed, that interruption with code 128";
    Bench bench = withPlaces(says).put(80, "00000000").set(Bench.MASK, 30).fine("1800").looks(2, 1);
    bench.put(Bench.CODE, "18001800").set(Bench.ADDRESS, Bench.CODE).steps(2, 0).looks(2, 1);
    bench.has(Bench.ADDRESS, 0x404).word(24, 0xE1E1E1E1).set(Bench.MASK, 31).steps(1, 0).looks(2, 0);
    bench.bytes(24, "1F 00 0080 0000 0404").has(Bench.ADDRESS, 0x510).set(Bench.MASK, 31);
    bench.put(0x510, "1800").steps(1, 0).has(Bench.ADDRESS, 0x512).word(28, 0x404);
  }

  private static void channelInterruption() {
    String says = "else if CHANNEL waits and is allowed, that one with the device; (it waits no more)";
    for (int device = 1; device <= 2; device++) {
      Bench bench = channelWaits(withPlaces(says + ": " + device), device).set(Bench.MASK, 29);
      bench.fine("1800").looks(1, 1).set(Bench.MASK, 31).steps(1, 0).looks(1, 0);
      bench.bytes(56, "1F 00 000" + device + " 0000 0402").has(Bench.ADDRESS, 0x550).set(Bench.MASK, 2);
      bench.put(0x550, "1800").steps(1, 0).has(Bench.ADDRESS, 0x552).word(60, 0x402);
    }
  }

  private static void externalBeforeChannel() {
    String says = "if EXTERNAL waits and is allowed, that interruption with code 128; else if CHANNEL waits";
    Bench bench = channelWaits(withPlaces(says), 1).put(80, "00000000");
    bench.fine("1800").looks(1, 1).looks(2, 1).set(Bench.MASK, 3).steps(1, 0).looks(2, 0).looks(1, 1);
    bench.has(Bench.ADDRESS, 0x510).word(56, 0xE5E5E5E5).set(Bench.MASK, 3).steps(1, 0).looks(1, 0);
    bench.has(Bench.ADDRESS, 0x550).word(60, 0x510);
    Bench second = channelWaits(withPlaces(says + " alone"), 1);
    second.put(80, "00000000").fine("1800").set(Bench.MASK, 2).steps(1, 0).looks(1, 0).looks(2, 1);
    second.has(Bench.ADDRESS, 0x550);
  }

  private static void timerFalls() {
    String says = "Otherwise the word at 80 falls by 1";
    int[] before = {2, 1, 0, -1, 65536, 256, Integer.MIN_VALUE, Integer.MAX_VALUE};
    for (int word : before) {
      Bench bench = new Bench(says + ": " + word).put(80, String.format("%08X", word)).put(79, "EE");
      bench.put(84, "EE").set(Bench.KEY, 3).set(Bench.BLOCK, 4).fine("1800").word(80, word - 1);
      bench.bytes(79, "EE").bytes(84, "EE");
    }
    Bench first = new Bench(says + ", before the instruction").put(80, "18130000").set(2, 77);
    first.set(Bench.ADDRESS, 80).steps(1, 0).has(1, 77).word(80, 0x1812FFFF);
    new Bench(says + ", with a fault too").put(80, "00000005").fault("0000", 1).word(80, 4);
  }

  private static void timerReachesMinusOne() {
    String says = "if it is -1 then, EXTERNAL waits";
    int[] words = {2, 1, 0, -1, -2, Integer.MIN_VALUE, Integer.MAX_VALUE};
    for (int word : words) {
      Bench bench = new Bench(says + ": from " + word).put(80, String.format("%08X", word));
      bench.fine("1800").looks(2, word == 0 ? 1 : 0);
    }
    Bench later = new Bench(says + " and later").put(80, "00000000").fine("1800").fine("1800").looks(2, 1);
    later.word(80, -2);
    Bench same = new Bench(says + ", not in the same step").put(80, "00000000").set(Bench.MASK, 1);
    same.fine("1800").looks(2, 1).has(Bench.ADDRESS, 0x402).word(24, 0);
  }

  private static void timerStandsStill() {
    String says = "Otherwise the word at 80 falls by 1; if it is -1 then, EXTERNAL waits. Then an instruction is done";
    Bench external = withPlaces(says + ": EXTERNAL").put(80, "00000000").put(0x510, "1812").set(2, 7);
    external.fine("1800").set(Bench.MASK, 1).steps(1, 0).word(80, -1).has(1, 0).has(Bench.ADDRESS, 0x510);
    external.looks(6, 2).steps(1, 0).word(80, -2).has(1, 7);
    Bench channel = channelWaits(withPlaces(says + ": CHANNEL"), 1);
    channel.put(80, "00000000").set(Bench.MASK, 2).steps(1, 0).word(80, 0).looks(2, 0).looks(6, 2);
    channel.has(Bench.ADDRESS, 0x550);
  }

  /** None of these first bytes is an operation, so the length is seen in the old status. */
  private static void lengths() {
    String says = "2 if the first one is below 64 (or lies beyond storage), 6 from 192 on, else 4";
    int[] firstBytes = {0, 1, 62, 63, 68, 127, 128, 190, 191, 192, 193, 254, 255};
    for (int first : firstBytes) {
      int length = first < 64 ? 2 : first < 192 ? 4 : 6;
      Bench bench = new Bench(says + ": " + first).put(Bench.CODE, String.format("%02X", first));
      bench.set(Bench.ADDRESS, Bench.CODE).steps(1, 1).looks(7, 1).word(44, Bench.CODE + length);
      Bench odd = new Bench(says + ": odd " + first).put(2047, String.format("%02X", first));
      odd.set(Bench.ADDRESS, 2047).steps(1, 1).looks(7, 6).word(44, 2047 + length);
    }
    for (int address : new int[] {2048, 2050, 4096, 65532}) {
      Bench beyond = new Bench(says + ": at " + address).put(0, "FFFF").put(2046, "FFFF");
      beyond.set(Bench.ADDRESS, address).steps(1, 1).looks(7, 5).word(44, address + 2);
    }
  }

  private static void addressIsBehind() {
    String says = "ADDRESS is behind it while it is done (and wraps)";
    new Bench(says + ": 05").fine("0510").has(1, 0x402).has(Bench.ADDRESS, 0x402);
    new Bench(says + ": 45").fine("45100600").has(1, 0x404).has(Bench.ADDRESS, 0x600);
    new Bench(says + ": 0A").fine("0A00").word(36, 0x402);
    new Bench(says + ": six").fine("D200 0600 0600").has(Bench.ADDRESS, 0x406);
    Bench last = new Bench(says + ": last").put(2046, "0510").set(Bench.ADDRESS, 2046).steps(1, 0);
    last.has(1, 2048).has(Bench.ADDRESS, 2048);
    Bench lastSix = new Bench(says + ": last six").put(2042, "D200 0600 0600").set(Bench.ADDRESS, 2042);
    lastSix.steps(1, 0).has(Bench.ADDRESS, 2048);
  }

  private static void addressWraps() {
    String says = "ADDRESS is behind it while it is done (and wraps)";
    new Bench(says + ": 65534").set(Bench.ADDRESS, 65534).steps(1, 1).looks(7, 5).word(44, 0);
    new Bench(says + ": 65535").set(Bench.ADDRESS, 65535).steps(1, 1).looks(7, 6).word(44, 1);
    new Bench(says + ": 65533").set(Bench.ADDRESS, 65533).steps(1, 1).looks(7, 6).word(44, 65535);
  }
}
