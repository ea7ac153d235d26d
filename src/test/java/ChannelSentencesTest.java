/** Boundary cases of THE CHANNEL and of 9C and 9D; "says" as elsewhere. */
public final class ChannelSentencesTest {
  private static final int CHAIN = Bench.CHAIN;
  private static final String SIXTEEN = "C0C1C2C3C4C5C6C7C8C9CACBCCCDCECF";

  public static void main(String[] args) {
    otherDevices();
    startWhileItWorks();
    startWhileItWaits();
    chainAndKey();
    questions();
    oneThingAMove();
    partsOfACommandWord();
    placesOfCommandWords();
    countOfZero();
    otherCommands();
    secondJumpInARow();
    jumps();
    lowFlags();
    commandsBehindADataChain();
    jumpBehindADataChain();
    noRecord();
    nextRecord();
    newLine();
    skip();
    readAddressGrows();
    printAddressGrows();
    beyond2047();
    protection();
    countIsZeroWithDataChain();
    recordHasNoByteMore();
    recordEndsWithCount();
    emptyRecord();
    lengthMatters();
    lengthDoesNotMatter();
    commandChain();
    placeInTheReport();
    unitAndCheck();
    countThatIsLeft();
    keyInTheReport();
    waitsWithTheDevice();
    Bench.finish();
  }

  private static void otherDevices() {
    String says = "CC 3 if the device is not 1 (reader) or 2 (printer)";
    for (int device = 0; device < 256; device++) {
      boolean known = device == 1 || device == 2;
      Bench bench = new Bench(says + ": " + device).chain("01000600 00000001").set(Bench.CC, 1);
      bench.fine(String.format("9C%02X0000", device)).cc(known ? 0 : 3).looks(0, known ? 1 : 0).looks(1, 0);
    }
  }

  private static void startWhileItWorks() {
    String says = "2 if it works or CHANNEL waits";
    Bench bench = new Bench(says + ": works").chain("01000600 00000002").start(2).moves(2, 2);
    bench.put(72, "F0000000").fine("9C010000").cc(2).fine("9C020000").cc(2).fine("9C030000").cc(3);
    bench.looks(0, 1).looks(4, 1).runs(1, "00000308 0C000000").looks(5, 2);
  }

  private static void startWhileItWaits() {
    String says = "2 if it works or CHANNEL waits";
    Bench bench = new Bench(says + ": waits").put(80, "00000064").chain("01000600 00000001").start(2);
    bench.runs(2, "00000308 0C000000").fine("9C010000").cc(2).fine("9C020000").cc(2).fine("9C000000").cc(3);
    bench.ended("00000308 0C000000").moves(50, 0).set(Bench.MASK, 2).steps(1, 0).word(56, 0x02030002);
    bench.looks(1, 0).set(Bench.MASK, 0).start(2);
  }

  private static void chainAndKey() {
    String says = "else it works with the chain at the word at 72 (its lowest 24 bits; its upper 4 bits are the"
        + " channel's KEY): CC 0";
    Bench bench = new Bench(says).put(72, "9F000340").put(0x340, "01000600 00000001").start(2);
    bench.runs(2, "90000348 0C000000");
    Bench most = new Bench(says + ": most").put(72, "FFFFFFF8").start(2).runs(1, "F0000000 00200000");
    most.looks(4, 0);
    Bench least = new Bench(says + ": least").put(72, "00000000").put(0, "01000600 00000001").start(2);
    least.runs(2, "00000008 0C000000");
    Bench taken = new Bench(says + ": the word is taken at START").chain("01000600 00000001").start(2);
    taken.put(72, "F0000340").runs(2, "00000308 0C000000");
    Bench broken = new Bench(says + ": behind a chain that broke").chain("01000600 80000001 00000600 00000000");
    broken.start(2).runs(3, "00000310 00200000").fine("9D000000").put(CHAIN, "FF").start(2);
    broken.runs(1, "00000308 00200001").looks(4, 1);
    Bench amid = new Bench(says + ": behind a command that broke").chain("010007FF 00000003").start(2);
    amid.runs(3, "00000308 00200002").fine("9D000000").start(2).moves(1, 1).looks(4, 2).looks(5, 0);
    Bench anyOperand = new Bench(says + ": no operand").chain("01000600 00000001").set(5, -1).set(Bench.KEY, 3);
    anyOperand.fine("9C025FFF").cc(0).looks(0, 1);
  }

  private static void questions() {
    String says = "9D CC 2 if the channel works, else 1 if CHANNEL waits (it waits no more), else 0";
    Bench bench = new Bench(says).chain("01000600 00000001").set(Bench.CC, 3).fine("9D000000").cc(0);
    bench.start(2).fine("9D000000").cc(2).looks(0, 1).runs(2, "00000308 0C000000").fine("9DFF0FFF").cc(1);
    bench.looks(1, 0).fine("9D000000").cc(0).looks(0, 0).set(Bench.MASK, 2).fine("1800").word(56, 0);
  }

  private static void oneThingAMove() {
    String says = "if it has no command, it TAKES the next; otherwise it moves one byte";
    Bench bench = new Bench(says).chain("02000600 40000002 02000610 00000001").record("C1C2").record("C3");
    bench.start(1).looks(3, 2).moves(1, 1).looks(3, 1).bytes(0x600, "00").moves(1, 1).bytes(0x600, "C100");
    bench.moves(1, 1).bytes(0x600, "C1C2").looks(3, 1).moves(1, 1).looks(3, 0).bytes(0x610, "00");
    bench.runs(1, "00000310 0C000000").bytes(0x610, "C3");
  }

  private static void partsOfACommandWord() {
    String says = "COMMAND, address (3 bytes), FLAGS, one byte, COUNT (2)";
    Bench count = new Bench(says + ": COUNT of two bytes").chain("01000000 00FF0102").start(2);
    for (int k = 0; k < 5; k++) {
      count.moves(50, 50);
    }
    count.looks(5, 249).runs(9, "00000308 0C000000").looks(5, 258);
    Bench most = new Bench(says + ": greatest COUNT").chain("01000000 0000FFFF").start(2);
    for (int k = 0; k < 40; k++) {
      most.moves(50, 50);
    }
    most.moves(49, 49).looks(5, 2048).looks(0, 1).runs(1, "00000308 0020F7FF").looks(5, 2048);
    new Bench(says + ": address of three bytes").chain("01010600 00000001").start(2)
        .runs(2, "00000308 00200001").looks(5, 0);
    new Bench(says + ": one byte").chain("01000600 00FF0001").start(2).runs(2, "00000308 0C000000");
  }

  private static void placesOfCommandWords() {
    String says = "At a place that is no multiple of 8 or beyond 2040";
    for (int off = 1; off < 8; off++) {
      Bench bench = new Bench(says + ": + " + off).put(72, "0000030" + off);
      bench.put(CHAIN + off, "01000600 00000009").start(2);
      bench.runs(1, "0000030" + Integer.toHexString(off + 8) + "00200000").looks(4, 0);
    }
    Bench last = new Bench(says + ": 2040").put(72, "000007F8").put(2040, "01000600 40000001").start(2);
    last.moves(2, 2).looks(5, 1).looks(0, 1).runs(1, "00000808 00200000").looks(4, 1);
    new Bench(says + ": 2048").put(72, "00000800").start(2).runs(1, "00000808 00200000");
    new Bench(says + ": 2056").put(72, "00000808").start(2).runs(1, "00000810 00200000");
    new Bench(says + ": 65536").put(72, "00010000").put(0, "01000600 00000001").start(2)
        .runs(1, "00010008 00200000");
    new Bench(says + ": 2041").put(72, "000007F9").start(2).runs(1, "00000801 00200000");
    new Bench(says + ": the last of all").put(72, "00FFFFF8").start(2).runs(1, "00000000 00200000");
  }

  private static void countOfZero() {
    String says = "or with COUNT 0";
    new Bench(says + ": reader").chain("02000600 20FF0000").record("C1").start(1)
        .runs(1, "00000308 00200000").looks(3, 1);
    new Bench(says + ": printer").chain("01000600 20FF0000").start(2).runs(1, "00000308 00200000").looks(4, 0);
    new Bench(says + ": data chain").chain("01000600 80000001 01000600 00000000").start(2)
        .runs(3, "00000310 00200000").looks(4, 1).looks(5, 1);
    new Bench(says + ": command chain").chain("01000600 40000001 01000600 00000000").start(2)
        .runs(3, "00000310 00200000").looks(4, 1).looks(5, 1);
    new Bench(says + ": 1").chain("01000600 00000001").start(2).runs(2, "00000308 0C000000");
  }

  private static void otherCommands() {
    String says = "a command other than 1, 2, 8, or a second 8 in a row, or 2 for the printer or 1 for the reader";
    for (int command = 0; command < 256; command++) {
      for (int device = 1; device <= 2; device++) {
        Bench bench = new Bench(says + ": " + command + " for " + device).record("C1");
        bench.chain(String.format("%02X000308 00000001", command)).put(CHAIN + 8, "00000000 00000002").start(device);
        if (command == 8) {
          bench.runs(2, "00000310 00200002");
        } else if (command == 3 - device) {
          bench.runs(2, "00000308 0C000000");
        } else {
          bench.runs(1, "00000308 00200001").looks(3, 1).looks(4, 0);
        }
      }
    }
  }

  private static void secondJumpInARow() {
    String says = "or a second 8 in a row";
    new Bench(says).chain("08000310 00000005 00000000 00000000 08000320 00000007").start(2)
        .runs(2, "00000318 00200007").looks(4, 0);
    new Bench(says + ": to itself").chain("08000300 00000005").start(2).runs(2, "00000308 00200005");
    Bench apart = new Bench(says + ": with a command between").chain("08000310 00000000 01000600 00000001");
    apart.put(0x310, "01000600 40000001 08000308 00000000").start(2).runs(6, "00000310 0C000000").looks(4, 2);
    Bench data = new Bench(says + ": in a data chain").chain("01000600 80000001 08000318 00000000");
    data.put(0x318, "08000328 00000009").start(2).runs(4, "00000320 00200009");
    Bench dataApart = new Bench(says + ": in a data chain, apart").chain("01000600 80000001 08000318 00000000");
    dataApart.put(0x318, "00000600 80000001 08000330 00000000").put(0x330, "00000600 00000001").start(2);
    dataApart.runs(8, "00000338 0C000000").looks(4, 1).looks(5, 3);
    Bench anew = new Bench(says + ": not from one START to the next").chain("08000301 00000000").start(2);
    anew.runs(2, "00000309 00200000").fine("9D000000").cc(1).put(CHAIN, "08000310 00000000");
    anew.put(0x310, "01000600 00000001").start(2).runs(3, "00000318 0C000000");
  }

  private static void jumps() {
    String says = "8 (COUNT does not matter): the place is the address, that was all of this move.";
    for (String rest : new String[] {"00000000", "FFFF0001", "0000FFFF"}) {
      Bench bench = new Bench(says + " " + rest).chain("08000340 " + rest).put(0x340, "01000600 00000001");
      bench.start(2).moves(1, 1).looks(4, 0).looks(0, 1).bytes(64, "00000000").moves(1, 1).looks(4, 1);
      bench.runs(1, "00000348 0C000000").looks(5, 1);
    }
    new Bench(says + " For the reader").chain("08000340 00000000").put(0x340, "02000600 00000001").record("C1")
        .start(1).moves(1, 1).looks(3, 1).runs(2, "00000348 0C000000").bytes(0x600, "C1");
    new Bench(says + " To 2040").chain("080007F8 00000000").put(2040, "01000600 00000001").start(2)
        .runs(3, "00000800 0C000000");
    new Bench(says + " To 2048").chain("08000800 00000009").start(2).moves(1, 1).looks(0, 1)
        .runs(1, "00000808 00200000");
    new Bench(says + " To an odd place").chain("08000341 00000009").start(2).runs(2, "00000349 00200000");
    new Bench(says + " Three bytes").chain("08010340 00000009").start(2).runs(2, "00010348 00200000");
  }

  private static void lowFlags() {
    String says = "FLAGS: 128 DATA CHAIN, 64 COMMAND CHAIN, 32 LENGTH DOES NOT MATTER, 16 SKIP.";
    new Bench(says + " No others").chain("02000600 0FFF0001").record("C1C2").start(1)
        .runs(2, "00000308 0C400000").bytes(0x600, "C1");
    new Bench(says + " None for the printer").chain("01000600 3F000001").put(0x600, "C1").start(2)
        .runs(2, "00000308 0C000000").prints(0, 0xC1);
    new Bench(says + " Both chains").chain("01000600 C0000001 00000600 00000001").start(2)
        .runs(4, "00000310 0C000000").looks(4, 1).looks(5, 2);
  }

  private static void commandsBehindADataChain() {
    String says = "Behind a DATA CHAIN the COMMAND is the one before, whatever is told other than 8.";
    for (int told = 0; told < 256; told++) {
      if (told != 8) {
        String second = String.format("%02X000602 00000001", told);
        new Bench(says + " Printer " + told).chain("01000600 80000001" + second).put(0x600, "C1C2C3").start(2)
            .runs(4, "00000310 0C000000").looks(4, 1).looks(5, 2).prints(1, 0xC3);
        new Bench(says + " Reader " + told).chain("02000600 80000001" + second).record("C1C2").record("C3")
            .start(1).runs(4, "00000310 0C000000").bytes(0x600, "C100C2").looks(3, 1);
      }
    }
  }

  private static void jumpBehindADataChain() {
    String says = "Behind a DATA CHAIN the COMMAND is the one before, whatever is told other than 8.";
    Bench bench = new Bench(says + " 8").chain("02000600 80000001 08000340 00000000").record("C1C2");
    bench.put(0x340, "FF000610 00000001").start(1).moves(3, 3).bytes(0x610, "00");
    bench.runs(2, "00000348 0C000000").bytes(0x600, "C100").bytes(0x610, "C200");
  }

  private static void noRecord() {
    String says = "a command 2 begins with the next RECORD (if there is none: it ENDS with UNIT 1)";
    new Bench(says).chain("02000600 00000007").start(1).runs(1, "00000308 0D000007").looks(3, 0);
    new Bench(says + ": whatever the flags").chain("02000600 F0000007 02000600 00000001").start(1)
        .runs(1, "00000308 0D000007");
    new Bench(says + ": later").chain("02000600 40000001 02000601 00000009").record("C1").start(1)
        .runs(3, "00000310 0D000009").bytes(0x600, "C100");
    Bench making = new Bench(says + ": one that is being made is none").chain("02000600 00000001");
    making.due("punch", making.frame.punch(0xC1, 1), true).start(1).runs(1, "00000308 0D000001");
    making.fine("9D000000").due("card", making.frame.card(), true).start(1).runs(2, "00000308 0C000000");
    making.bytes(0x600, "C100");
  }

  private static void nextRecord() {
    String says = "Otherwise a command 2 begins with the next RECORD";
    Bench bench = new Bench(says).chain("02000600 60000001 02000610 20000001").record("C1C2C3").record("C4C5");
    bench.start(1).runs(4, "00000310 0C000000").bytes(0x600, "C100").bytes(0x610, "C400").looks(3, 0);
    Bench broken = new Bench(says + ": after an end amid a record").chain("020007FF 00000002");
    broken.record("C1C2").record("C3").start(1).runs(3, "00000308 00200001").fine("9D000000").start(1);
    broken.looks(3, 1).runs(2, "00000308 0C400001").bytes(0x7FF, "C3").looks(3, 0);
  }

  private static void newLine() {
    String says = "1 with a new LINE";
    Bench bench = new Bench(says).chain("01000600 40000002 01000600 00000001").put(0x600, "C1C2").start(2);
    bench.moves(3, 3).looks(4, 1).looks(5, 2).prints(1, 0xC2).moves(1, 1).looks(4, 2).looks(5, 0);
    bench.prints(0, -1).runs(1, "00000310 0C000000").looks(5, 1).prints(0, 0xC1).prints(1, -1);
    bench.fine("9D000000").start(2).looks(4, 2).looks(5, 1).moves(1, 1).looks(4, 3).looks(5, 0);
  }

  private static void skip() {
    String says = "the next one of the record goes to the address (not with SKIP)";
    new Bench(says).chain("02000600 10000002").record("C1C2").start(1).runs(3, "00000308 0C000000")
        .bytes(0x600, "0000");
    new Bench(says + ": then without").chain("02000600 90000002 02000600 00000001").record("C1C2C3").start(1)
        .runs(5, "00000310 0C000000").bytes(0x600, "C300");
    new Bench(says + ": at first without").chain("02000600 80000001 02000601 10000002").record("C1C2C3")
        .start(1).runs(5, "00000310 0C000000").bytes(0x600, "C10000");
  }

  private static void readAddressGrows() {
    String says = "the next one of the record goes to the address";
    for (int length = 1; length <= 16; length++) {
      String record = SIXTEEN.substring(0, 2 * length);
      Bench bench = new Bench(says + ": " + length).put(0x5FF, "EE").put(0x600 + length, "EE").record(record);
      bench.chain(String.format("02000600 000000%02X", length)).start(1).runs(length + 1, "00000308 0C000000");
      bench.bytes(0x5FF, "EE" + record + "EE");
    }
  }

  private static void printAddressGrows() {
    String says = "1: the byte there is put to the line; the address grows, COUNT falls.";
    Bench bench = new Bench(says).chain("010007FC 00000004").put(0x7FC, "C1C2FF00").start(2);
    bench.runs(5, "00000308 0C000000").prints(0, 0xC1).prints(1, 0xC2).prints(2, 255).prints(3, 0).prints(4, -1);
    Bench late = new Bench(says + " The byte is read in its own move").chain("01000600 00000002").start(2);
    late.moves(2, 2).put(0x600, "C1C2").runs(1, "00000308 0C000000").prints(0, 0).prints(1, 0xC2);
  }

  private static void beyond2047() {
    String says = "Beyond 2047: ENDS with CHECK 32";
    new Bench(says + ": read up to it").chain("020007FE 00000002").record("C1C2").start(1)
        .runs(3, "00000308 0C000000").bytes(0x7FE, "C1C2");
    new Bench(says + ": read over it").chain("020007FE 60000005").record("C1C2C3").start(1)
        .runs(4, "00000308 00200003").bytes(0x7FE, "C1C2").word(0, 0);
    new Bench(says + ": read behind it").chain("02000800 20000001").record("C1").start(1)
        .runs(2, "00000308 00200001").word(0, 0);
    new Bench(says + ": print up to it").chain("010007FE 00000002").start(2).runs(3, "00000308 0C000000");
    new Bench(says + ": print over it").chain("010007FE 40000003").start(2).runs(4, "00000308 00200001")
        .looks(5, 2);
    new Bench(says + ": print far behind it").chain("01FFFFFF 00000002").start(2).runs(2, "00000308 00200002")
        .looks(4, 1).looks(5, 0);
    new Bench(says + ": with SKIP").chain("02000800 30000001").record("C1").start(1).runs(2, "00000308 00200001");
    new Bench(says + ": an empty record needs none").chain("02FFFFFF 20000001").record("").start(1)
        .runs(1, "00000308 0C000001");
  }

  private static Bench keyed(String title, int key, int blockKey) {
    return new Bench(title).put(72, Integer.toHexString(key) + "0000300").set(Bench.BLOCK + 6, blockKey);
  }

  private static void protection() {
    String says = "its KEY is not 0 and not the block's, for 2 and without SKIP: with CHECK 16";
    for (int key = 0; key < 16; key++) {
      for (int blockKey = 0; blockKey < 16; blockKey++) {
        Bench bench = keyed(says + ": " + key + " " + blockKey, key, blockKey).set(Bench.KEY, 1);
        bench.put(CHAIN, "02000600 20000002").record("C1C2").start(1);
        String front = Integer.toHexString(key) + "0000308";
        if (key == 0 || key == blockKey) {
          bench.runs(3, front + "0C000000").bytes(0x600, "C1C200");
        } else {
          bench.runs(2, front + "00100002").bytes(0x600, "0000");
        }
      }
    }
    keyed(says + ": with SKIP", 3, 4).put(CHAIN, "02000600 10000002").record("C1C2").start(1)
        .runs(3, "30000308 0C000000").bytes(0x600, "0000");
    keyed(says + ": for 1", 3, 4).put(CHAIN, "01000600 00000002").put(0x600, "C1C2").start(2)
        .runs(3, "30000308 0C000000").prints(1, 0xC2);
    keyed(says + ": into the next block", 3, 4).set(Bench.BLOCK + 5, 3).put(CHAIN, "020005FF 00000002")
        .record("C1C2").start(1).runs(3, "30000308 00100001").bytes(0x5FF, "C100");
    keyed(says + ": beyond is looked at first", 3, 4).put(CHAIN, "02000800 00000002").record("C1C2").start(1)
        .runs(2, "30000308 00200002");
  }

  private static void countIsZeroWithDataChain() {
    String says = "COUNT is 0 then: with DATA CHAIN the next move takes the next one";
    Bench bench = new Bench(says).chain("02000600 80000002 02000610 00000001").record("C1C2C3").start(1);
    bench.moves(3, 3).bytes(0x600, "C1C200").looks(0, 1).moves(1, 1).bytes(0x610, "00").looks(0, 1);
    bench.runs(1, "00000310 0C000000").bytes(0x610, "C300");
    Bench wrong = new Bench(says + ": a wrong place").put(72, "000007F8").put(0x7F8, "01000600 80000001");
    wrong.start(2).moves(2, 2).looks(0, 1).runs(1, "00000808 00200000").looks(5, 1);
    Bench thrice = new Bench(says + ": three").chain("01000600 80000001 00000601 80000001 00000602 00000001");
    thrice.put(0x600, "C1C2C3").start(2).runs(6, "00000318 0C000000").looks(4, 1).looks(5, 3).prints(2, 0xC3);
  }

  private static void recordHasNoByteMore() {
    String says = "or as soon as the record has no byte more";
    new Bench(says).chain("02000600 20000005").record("C1C2").start(1).runs(3, "00000308 0C000003")
        .bytes(0x600, "C1C200");
    new Bench(says + ": data chain").chain("02000600 A0000005 02000610 00000001").record("C1C2").record("C3")
        .start(1).runs(3, "00000308 0C000003").looks(3, 1).bytes(0x610, "00");
    new Bench(says + ": in the second word").chain("02000600 A0000001 00000601 20000005").record("C1C2").start(1)
        .runs(4, "00000310 0C000004").bytes(0x600, "C1C200");
  }

  private static void recordEndsWithCount() {
    String says = "then DATA CHAIN does not count";
    new Bench(says).chain("02000600 80000002 02000610 00000001").record("C1C2").record("C3").start(1)
        .runs(3, "00000308 0C000000").looks(3, 1).bytes(0x610, "00");
    new Bench(says + ": COMMAND CHAIN does").chain("02000600 C0000002 02000610 00000001").record("C1C2")
        .record("C3").start(1).runs(5, "00000310 0C000000").looks(3, 0).bytes(0x610, "C3");
    new Bench(says + ": so the next command is its own").chain("02000600 C0000002 00000610 00000001")
        .record("C1C2").record("C3").start(1).runs(4, "00000310 00200001").looks(3, 1);
  }

  private static void emptyRecord() {
    String says = "also if it is empty: in the move in which it was taken; then DATA CHAIN does not count";
    new Bench(says).chain("02000600 00000005").record("").record("C1").start(1)
        .runs(1, "00000308 0C400005").looks(3, 1);
    new Bench(says + ": any length").chain("02000600 20000005").record("").start(1).runs(1, "00000308 0C000005");
    new Bench(says + ": DATA CHAIN").chain("02000600 A0000005 02000600 00000001").record("").record("C1")
        .start(1).runs(1, "00000308 0C000005").looks(3, 1);
    new Bench(says + ": COMMAND CHAIN").chain("02000600 E0000005 02000600 00000001").record("").record("C1")
        .start(1).moves(1, 1).looks(0, 1).looks(3, 1).runs(2, "00000310 0C000000").bytes(0x600, "C1");
    new Bench(says + ": then another command").chain("02000600 E0000005 00000600 00000001").record("")
        .record("C1").start(1).runs(2, "00000310 00200001");
  }

  private static void lengthMatters() {
    String says = "if (for 2) bytes of the record are left or COUNT is not 0, and LENGTH matters, it ENDS with"
        + " CHECK 64";
    for (int length = 0; length <= 4; length++) {
      for (int count = 1; count <= 5; count++) {
        Bench bench = new Bench(says + ": " + length + " for " + count).record(SIXTEEN.substring(0, 2 * length));
        bench.chain("02000600 4000000" + count + "08000600 00000000").start(1);
        int moved = Math.min(length, count);
        if (length == count) {
          bench.moves(moved + 1, moved + 1).looks(0, 1).looks(1, 0);
        } else {
          bench.runs(moved + 1, "00000308 0C40000" + (count - moved));
        }
        bench.bytes(0x600, SIXTEEN.substring(0, 2 * moved) + "00");
      }
    }
    new Bench(says + ": not for 1").chain("01000600 00000003").record("C1").start(2).runs(4, "00000308 0C000000");
  }

  private static void lengthDoesNotMatter() {
    String says = "32 LENGTH DOES NOT MATTER";
    for (int length = 0; length <= 4; length++) {
      for (int count = 1; count <= 5; count++) {
        int moved = Math.min(length, count);
        Bench bench = new Bench(says + ": " + length + " for " + count).record(SIXTEEN.substring(0, 2 * length));
        bench.chain("02000600 2000000" + count).start(1).runs(moved + 1, "00000308 0C00000" + (count - moved));
      }
    }
    // The flags of the word that was taken last say whether LENGTH matters.
    new Bench(says + ": said too early").chain("02000600 A0000001 00000601 00000005").record("C1C2").start(1)
        .runs(4, "00000310 0C400004");
    new Bench(says + ": said at last").chain("02000600 80000001 00000601 20000005").record("C1C2").start(1)
        .runs(4, "00000310 0C000004");
  }

  private static void commandChain() {
    String says = "it ENDS with CHECK 64; with COMMAND CHAIN the";
    Bench chained = new Bench(says + " next move takes the next one").chain("01000600 40000001 01000600 00000001");
    chained.start(2).moves(2, 2).looks(0, 1).looks(4, 1).moves(1, 1).looks(4, 2).runs(1, "00000310 0C000000");
    new Bench(says + " check goes first").chain("02000600 40000001 02000610 00000001").record("C1C2").record("C3")
        .start(1).runs(2, "00000308 0C400000").looks(3, 1);
    new Bench(says + " flag of the last word counts").chain("01000600 C0000001 00000600 00000001").start(2)
        .runs(4, "00000310 0C000000").looks(4, 1);
    new Bench(says + " flag of the last word counts, set").chain("01000600 80000001 00000600 40000001")
        .put(CHAIN + 16, "01000600 00000001").start(2).runs(6, "00000318 0C000000").looks(4, 2);
    new Bench(says + " command behind it must be right").chain("01000600 40000001 00000600 00000005").start(2)
        .runs(3, "00000310 00200005").looks(4, 1);
  }

  private static void placeInTheReport() {
    String says = "the place behind the command word that was taken last or could not be (3 bytes)";
    new Bench(says + ": taken").chain("01000600 00000001").start(2).runs(2, "00000308 0C000000");
    new Bench(says + ": could not be").chain("01000600 40000001 05000600 00000001").start(2)
        .runs(3, "00000310 00200001");
    new Bench(says + ": behind a jump").chain("08000340 00000000").put(0x340, "01000600 00000001").start(2)
        .runs(3, "00000348 0C000000");
    new Bench(says + ": place that is wrong").put(72, "00123457").start(2).runs(1, "0012345F 00200000");
    new Bench(says + ": behind the last word").put(72, "000007F8").put(0x7F8, "01000600 00000001").start(2)
        .runs(2, "00000800 0C000000");
    new Bench(says + ": wraps").put(72, "00FFFFFF").start(2).runs(1, "00000007 00200000");
  }

  private static void unitAndCheck() {
    String says = "UNIT (12, and 1 more if told; 0 with CHECK 32 or 16), CHECK (0 without)";
    new Bench(says + ": fine").chain("01000600 00000001").start(2).runs(2, "00000308 0C000000");
    new Bench(says + ": no record").chain("02000600 00000001").start(1).runs(1, "00000308 0D000001");
    new Bench(says + ": 64").chain("02000600 00000001").record("C1C2").start(1).runs(2, "00000308 0C400000");
    new Bench(says + ": 32").chain("01000600 00000000").start(2).runs(1, "00000308 00200000");
    keyed(says + ": 16", 3, 4).put(CHAIN, "02000600 00000001").record("C1").start(1)
        .runs(2, "30000308 00100001");
    Bench again = new Bench(says + ": the old report is gone").put(64, "FFFFFFFFFFFFFFFF FF");
    again.chain("01000600 00000001").put(63, "EE").start(2).runs(2, "00000308 0C000000").bytes(63, "EE");
    again.bytes(72, "00000300");
  }

  private static void countThatIsLeft() {
    String says = "COUNT that is left (2; 0 if the place of the command word was wrong)";
    new Bench(says + ": two bytes").chain("02000600 2000FFFF").record("C1").start(1).runs(2, "00000308 0C00FFFE");
    new Bench(says + ": all of it").chain("02000600 2000FFFF").start(1).runs(1, "00000308 0D00FFFF");
    new Bench(says + ": of a wrong word").chain("03000600 2000FFFF").start(1).runs(1, "00000308 0020FFFF");
    new Bench(says + ": a byte that was not moved").chain("02000800 2000FFFF").record("C1").start(1)
        .runs(2, "00000308 0020FFFF");
    new Bench(says + ": wrong place").put(72, "00000304").put(0x308, "00000000 0000FFFF").start(2)
        .runs(1, "0000030C 00200000");
    Bench later = new Bench(says + ": wrong place behind a command").chain("02000600 60000009 08000341 0000FFFF");
    later.record("C1").start(1).runs(4, "00000349 00200000");
  }

  private static void keyInTheReport() {
    String says = "To END: the eight bytes at 64 become: KEY * 16";
    for (int key = 0; key < 16; key++) {
      String digit = Integer.toHexString(key);
      Bench bench = new Bench(says + ": " + key).put(72, digit + "F000300").set(Bench.BLOCK, 15 - key);
      bench.put(CHAIN, "01000600 00000001").set(Bench.KEY, 7).start(2).runs(2, digit + "0000308 0C000000");
    }
  }

  private static void waitsWithTheDevice() {
    String says = "the channel works no more, CHANNEL waits, with the device as its code";
    for (int device = 1; device <= 2; device++) {
      Bench bench = new Bench(says + ": " + device).put(80, "00000064").chain("05000600 00000001").start(device);
      bench.runs(1, "00000308 00200001").moves(50, 0).set(Bench.MASK, 2).set(Bench.KEY, 0).steps(1, 0);
      bench.word(56, 0x02000000 | device).looks(1, 0).looks(0, 0).moves(50, 0);
    }
  }
}
