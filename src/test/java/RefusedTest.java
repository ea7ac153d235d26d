/** "A call that is refused changes nothing.": a frame with refused calls stays like its twin without. */
public final class RefusedTest {
  private static final int[] WRONG_LENGTHS = {Integer.MIN_VALUE, -1, 0, 9, 17, Integer.MAX_VALUE};
  private static final int[] WRONG_TIMES = {Integer.MIN_VALUE, -1, 0, 51, Integer.MAX_VALUE};
  private static final int[] WRONG_PARTS = {Integer.MIN_VALUE, -1, 28, 32, Integer.MAX_VALUE};

  private final Bench bench;
  private final SmallFrame twin;

  private RefusedTest(String state) {
    bench = new Bench("A call that is refused changes nothing. " + state);
    twin = new SmallFrame();
  }

  public static void main(String[] args) {
    for (int block = 0; block < 8; block++) {
      new RefusedTest("New object").check(block);
      new RefusedTest("Full reader").fillReader().check(block);
      new RefusedTest("Channel that reads").work(1, 3).check(block);
      new RefusedTest("Channel that prints").work(2, 5).check(block);
      new RefusedTest("Channel that waits").work(1, 50).check(block);
      new RefusedTest("Channel at its start").work(2, 0).check(block);
    }
    Bench.finish();
  }

  private void load(int address, long bytes, int n) {
    bench.due("load", bench.frame.load(address, bytes, n), twin.load(address, bytes, n));
  }

  private void set(int what, int value) {
    bench.due("set", bench.frame.set(what, value), twin.set(what, value));
  }

  private void punch(long bytes, int n) {
    bench.due("punch", bench.frame.punch(bytes, n), twin.punch(bytes, n));
  }

  private void card() {
    bench.due("card", bench.frame.card(), twin.card());
  }

  private void step(int n) {
    bench.due("step(" + n + ")", bench.frame.step(n), twin.step(n));
  }

  private void channel(int n) {
    bench.due("channel(" + n + ")", bench.frame.channel(n), twin.channel(n));
  }

  /** Eight records wait, and the one that is being made has no room either. */
  private RefusedTest fillReader() {
    for (int k = 0; k < 8; k++) {
      punch(0xC1C2C3L + k, 3);
      card();
    }
    punch(0x0102030405060708L, 8);
    punch(0x090A0B0C0D0E0F10L, 8);
    bench.looks(3, 8);
    return this;
  }

  /** The channel has made some moves of a chain, while EXTERNAL waits and a record is being made. */
  private RefusedTest work(int device, int moves) {
    fillReader();
    load(72, 0x300, 4);
    long command = 3 - device;
    load(0x300, command << 56 | 0x6006000000BL, 8);
    load(0x308, command << 56 | 0x61020000002L, 8);
    load(0x600, 0xD1D2D3D4D5D6D7D8L, 8);
    load(0x400, 0x9C000000L | device << 16, 4);
    load(104, 0x0021000000000500L, 8);
    set(Bench.ADDRESS, 0x400);
    step(1);
    bench.looks(0, 1);
    if (moves > 0) {
      channel(moves);
    }
    return this;
  }

  private void check(int block) {
    refuse();
    compare(block);
    goOn();
    compare(block);
  }

  /** Only the frame under test gets these calls. */
  private void refuse() {
    SmallFrame frame = bench.frame;
    for (int n : WRONG_LENGTHS) {
      bench.due("load of " + n, frame.load(0x600, -1L, n), false);
      bench.due("punch of " + n, frame.punch(-1L, n), false);
    }
    for (int address : new int[] {Integer.MIN_VALUE, -1, 2041, 2048, Integer.MAX_VALUE}) {
      bench.due("load at " + address, frame.load(address, -1L, 8), false);
    }
    for (int n : WRONG_TIMES) {
      bench.steps(n, -1).moves(n, -1);
    }
    for (int what : WRONG_PARTS) {
      bench.due("set(" + what + ")", frame.set(what, -1), false);
      bench.has(what, -1).looks(what, -1).prints(what < 0 ? what : what + 32, -1);
    }
    if (twin.look(3) == 8) {
      bench.due("ninth card", frame.card(), false).due("17 bytes", frame.punch(-1L, 1), false);
      bench.due("24 bytes", frame.punch(-1L, 8), false).due("ninth card", frame.card(), false);
    }
  }

  /** One block of storage at a time: an object is good for 512 calls. */
  private void compare(int block) {
    for (int address = 256 * block; address < 256 * block + 256; address += 4) {
      bench.word(address, twin.word(address));
    }
    for (int what = 0; what < 28; what++) {
      bench.has(what, twin.get(what));
    }
    for (int what = 0; what < 8; what++) {
      bench.looks(what, twin.look(what));
    }
    for (int k = 0; k < 12; k++) {
      bench.prints(k, twin.printed(k));
    }
  }

  /** What was held inside comes out: the rest of the chain, and the record that was being made. */
  private void goOn() {
    channel(50);
    step(2);
    card();
    punch(0x5152L, 2);
    for (int k = 0; k < 8; k++) {
      load(72, 0x300, 4);
      load(0x300, 0x020006002000001EL + ((long) k << 36), 8);
      load(0x400, 0x9D0000009C010000L, 8);
      set(Bench.ADDRESS, 0x400);
      set(Bench.MASK, 0);
      step(2);
      channel(50);
      card();
    }
  }
}
