import java.util.Random;

/** Any calls in any state: none throws, answers keep their range, refused calls change nothing. */
public final class AnyCallsTest {
  private static final int RUNS = 6000;
  /** A hundred turns of at most four calls leave room for the questions at last: 512 calls in all. */
  private static final int TURNS = 100;
  private static final int WORDS_AT_LAST = 64;
  private static final int[] FIRST_BYTES = {
    0x05, 0x07, 0x08, 0x09, 0x0A, 0x12, 0x14, 0x16, 0x17, 0x18, 0x19, 0x1A, 0x1B, 0x1C, 0x1D,
    0x40, 0x41, 0x42, 0x43, 0x45, 0x46, 0x47, 0x48, 0x49, 0x4A, 0x4E, 0x4F, 0x50, 0x58, 0x59,
    0x5A, 0x5B, 0x82, 0x88, 0x89, 0x8A, 0x90, 0x91, 0x92, 0x94, 0x95, 0x96, 0x98, 0x9C, 0x9D,
    0xD2, 0xD5, 0xDC, 0xF8, 0xF9, 0xFA, 0xFB, 0x9C, 0x9C,
  };
  private static final int[] EDGES = {
    0, 1, -1, 2, 7, 8, 15, 16, 27, 28, 31, 32, 50, 51, 255, 256, 2040, 2047, 2048, 65535, 65536,
    Integer.MAX_VALUE, Integer.MIN_VALUE,
  };

  private final Random random;
  private final Bench all;
  private final Bench taken;

  private AnyCallsTest(int seed) {
    random = new Random(seed);
    all = new Bench("run " + seed);
    taken = new Bench("run " + seed + " without its refused calls");
  }

  public static void main(String[] args) {
    for (int seed = 0; seed < RUNS; seed++) {
      AnyCallsTest run = new AnyCallsTest(seed);
      for (int k = 0; k < TURNS; k++) {
        run.makeCall();
      }
      run.compare();
    }
    Bench.finish();
  }

  private int number() {
    int kind = random.nextInt(4);
    return kind == 0 ? EDGES[random.nextInt(EDGES.length)]
        : kind == 1 ? random.nextInt() : random.nextInt(kind == 2 ? 60 : 2100);
  }

  private long bytes() {
    return random.nextBoolean() ? random.nextLong() : number();
  }

  private void makeCall() {
    switch (random.nextInt(12)) {
      case 0: case 1: loadSomething(); break;
      case 2: loadProgram(); break;
      case 3: loadChain(); break;
      case 4: setSomething(number(), number()); break;
      case 5: setSomething(Bench.ADDRESS, random.nextInt(1020) * 2); break;
      case 6: punchSomething(); break;
      case 7: cardSomething(); break;
      case 8: case 9: stepSomething(random.nextBoolean() ? number() : 1 + random.nextInt(50)); break;
      case 10: moveSomething(random.nextBoolean() ? number() : 1 + random.nextInt(50)); break;
      default: askSomething(); break;
    }
  }

  private void load(int address, long value, int n) {
    boolean answer = all.frame.load(address, value, n);
    boolean right = n >= 1 && n <= 8 && address >= 0 && address + (long) n <= 2048;
    all.due("load(" + address + ", " + value + ", " + n + ")", answer, right);
    if (answer) {
      taken.frame.load(address, value, n);
    }
  }

  private void loadSomething() {
    load(number(), bytes(), random.nextInt(12) - 1);
  }

  private void loadProgram() {
    long first = FIRST_BYTES[random.nextInt(FIRST_BYTES.length)];
    long operands = random.nextLong() & (random.nextBoolean() ? 0xFF07FF07FFL : 0xFFFFFFFFFFL);
    load(random.nextInt(1020) * 2, (first << 40 | operands) << 16 | random.nextInt(65536), 8);
    load(new int[] {94, 102, 110, 126}[random.nextInt(4)], random.nextInt(1020) * 2, 2);
  }

  private void loadChain() {
    long command = random.nextInt(4) == 0 ? 8 : 1 + random.nextInt(2);
    int place = random.nextInt(32) * 8 + 0x200;
    load(place, command << 56 | (random.nextInt(2048) & ~7L) << 32
        | (long) random.nextInt(256) << 24 | random.nextInt(20), 8);
    load(72, random.nextInt(3) == 0 ? random.nextInt() : place, 4);
  }

  private void setSomething(int what, int value) {
    boolean answer = all.frame.set(what, value);
    all.due("set(" + what + ", " + value + ")", answer, what >= 0 && what < 28);
    if (answer) {
      taken.frame.set(what, value);
    }
  }

  private void punchSomething() {
    long value = bytes();
    int n = random.nextInt(12) - 1;
    if (all.frame.punch(value, n)) {
      taken.frame.punch(value, n);
      all.due("punch of " + n, n >= 1 && n <= 8, true);
    }
  }

  private void cardSomething() {
    int waiting = all.frame.look(3);
    boolean answer = all.frame.card();
    all.due("card with " + waiting, answer, waiting < 8);
    if (answer) {
      taken.frame.card();
    }
  }

  private void stepSomething(int n) {
    int answer = all.frame.step(n);
    boolean right = n >= 1 && n <= 50;
    all.due("step(" + n + ") in range", right ? answer >= 0 && answer <= n : answer == -1, true);
    if (right) {
      taken.due("step(" + n + ")", taken.frame.step(n), answer);
    }
  }

  private void moveSomething(int n) {
    int answer = all.frame.channel(n);
    boolean right = n >= 1 && n <= 50;
    all.due("channel(" + n + ") in range", right ? answer >= 0 && answer <= n : answer == -1, true);
    if (right) {
      taken.due("channel(" + n + ")", taken.frame.channel(n), answer);
    }
  }

  private void askSomething() {
    int what = number();
    all.due("get(" + what + ")", all.frame.get(what), taken.frame.get(what));
    all.due("look(" + what + ")", all.frame.look(what), taken.frame.look(what));
    all.due("printed(" + what + ")", all.frame.printed(what), taken.frame.printed(what));
    all.due("word(" + what + ")", all.frame.word(what), taken.frame.word(what));
  }

  private void compare() {
    for (int what = 0; what < 28; what++) {
      all.due("get(" + what + ") at last", all.frame.get(what), taken.frame.get(what));
    }
    for (int what = 0; what < 8; what++) {
      all.due("look(" + what + ") at last", all.frame.look(what), taken.frame.look(what));
    }
    for (int k = 0; k < WORDS_AT_LAST; k++) {
      int address = random.nextInt(512) * 4;
      all.due("word(" + address + ") at last", all.frame.word(address), taken.frame.word(address));
    }
  }
}
