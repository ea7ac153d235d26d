/** The two programs of README.md, with the answers that it tells. */
public final class ReadmeTest {
  public static void main(String[] args) {
    twoInstructions();
    readAndPrinted();
    Bench.finish();
  }

  private static void twoInstructions() {
    Bench bench = new Bench("two instructions");
    SmallFrame frame = bench.frame;
    bench.due("load", frame.load(512, 0x41100007_1A11L, 6), true);
    bench.set(16, 512).steps(2, 0).has(1, 14).has(19, 2);
  }

  private static void readAndPrinted() {
    Bench bench = new Bench("read and printed");
    SmallFrame frame = bench.frame;
    bench.due("punch", frame.punch(0x48454C4C4FL, 5), true);
    bench.due("card", frame.card(), true);
    bench.due("command 2", frame.load(768, 0x02000400_00000005L, 8), true);
    bench.due("command 1", frame.load(776, 0x01000400_00000005L, 8), true);
    bench.due("9C, 9D", frame.load(512, 0x9C010000_9D000000L, 8), true);
    bench.due("9C", frame.load(520, 0x9C020000L, 4), true);
    bench.set(16, 512);
    bench.due("reader's chain", frame.load(72, 768, 4), true);
    bench.steps(1, 0).looks(0, 1).moves(50, 6).word(68, 0x0C000000);
    bench.due("printer's chain", frame.load(72, 776, 4), true);
    bench.steps(2, 0).looks(1, 0).looks(0, 1).moves(50, 6).looks(5, 5);
    bench.prints(0, 'H').prints(4, 'O').prints(5, -1);
  }
}
