/** A frame under test, with the calls that every test needs, and the count of wrong answers. */
final class Bench {
  static final int CODE = 1024;
  static final int ADDRESS = 16;
  static final int KEY = 17;
  static final int MASK = 18;
  static final int CC = 19;
  static final int BLOCK = 20;
  static final int CHAIN = 0x300;

  /** The document leaves free what an object answers later. */
  private static final int MOST_CALLS = 512;

  private static int wrong = 0;
  private static int asked = 0;

  final SmallFrame frame;
  private final String title;
  private int calls = 0;

  Bench(String title) {
    this.title = title;
    this.frame = new SmallFrame();
  }

  /** Ends a test as .ci/run wants it. */
  static void finish() {
    System.out.println(wrong == 0 ? asked + " answers are as due" : wrong + " answers are not as due");
    if (wrong != 0 || asked == 0) {
      System.exit(1);
    }
  }

  Bench due(String call, long got, long want) {
    asked++;
    calls++;
    if (calls > MOST_CALLS) {
      wrong++;
      System.out.println(title + ": " + call + " is call " + calls + " of one object");
    }
    if (got != want) {
      wrong++;
      System.out.println(title + ": " + call + " answered " + got + ", due is " + want);
    }
    return this;
  }

  Bench due(String call, boolean got, boolean want) {
    return due(call, got ? 1 : 0, want ? 1 : 0);
  }

  /** Loads bytes that are written in hexadecimal, with spaces wherever they help. */
  Bench put(int address, String hex) {
    String digits = hex.replace(" ", "");
    for (int k = 0; k < digits.length(); k += 16) {
      String part = digits.substring(k, Math.min(k + 16, digits.length()));
      long value = Long.parseUnsignedLong(part, 16);
      int place = address + k / 2;
      due("load(" + place + ", " + part + ")", frame.load(place, value, part.length() / 2), true);
    }
    return this;
  }

  Bench set(int what, int value) {
    return due("set(" + what + ", " + value + ")", frame.set(what, value), true);
  }

  /** Does one instruction at CODE, which must not end in a program interruption. */
  Bench fine(String hex) {
    return put(CODE, hex).set(ADDRESS, CODE).steps(1, 0);
  }

  /** Does one instruction at CODE, which must end in a program interruption with that code. */
  Bench fault(String hex, int code) {
    int length = hex.replace(" ", "").length() / 2;
    put(CODE, hex).set(ADDRESS, CODE).steps(1, 1);
    due(hex + ": latest code", frame.look(7), code);
    due(hex + ": code in the old status", frame.word(40) & 0xFFFF, code);
    return due(hex + ": address in the old status", frame.word(44), CODE + length);
  }

  Bench steps(int n, int programInterruptions) {
    return due("step(" + n + ")", frame.step(n), programInterruptions);
  }

  Bench moves(int n, int made) {
    return due("channel(" + n + ")", frame.channel(n), made);
  }

  Bench has(int what, int value) {
    return due("get(" + what + ")", frame.get(what), value);
  }

  Bench cc(int value) {
    return has(CC, value);
  }

  Bench looks(int what, int value) {
    return due("look(" + what + ")", frame.look(what), value);
  }

  Bench prints(int k, int value) {
    return due("printed(" + k + ")", frame.printed(k), value);
  }

  Bench word(int address, int value) {
    return due("word(" + address + ")", frame.word(address), value);
  }

  /** Compares the bytes from an address on with what is written in hexadecimal. */
  Bench bytes(int address, String hex) {
    String digits = hex.replace(" ", "");
    for (int k = 0; k + 1 < digits.length(); k += 2) {
      int place = address + k / 2;
      int want = Integer.parseInt(digits.substring(k, k + 2), 16);
      due("byte at " + place, frame.word(place) >>> 24, want);
    }
    return this;
  }

  /** Puts a chain of command words where START will find it, with the channel's key 0. */
  Bench chain(String words) {
    return put(72, "00000300").put(CHAIN, words);
  }

  Bench start(int device) {
    return fine("9C0" + device + "0000").cc(0).looks(0, 1).looks(1, 0);
  }

  /** Makes all moves up to the end: how many there must be, and what must stand at 64 then. */
  Bench runs(int moves, String report) {
    return moves(50, moves).ended(report);
  }

  /** What must stand at 64 once the channel has ended. */
  Bench ended(String report) {
    return looks(0, 0).looks(1, 1).bytes(64, report);
  }

  /** Punches a record and puts it behind those that wait. */
  Bench record(String hex) {
    String digits = hex.replace(" ", "");
    for (int k = 0; k + 1 < digits.length(); k += 2) {
      due("punch", frame.punch(Long.parseLong(digits.substring(k, k + 2), 16), 1), true);
    }
    return due("card()", frame.card(), true);
  }
}
