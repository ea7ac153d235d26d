/** Boundary cases of PACKED numbers in F8, F9, FA and FB; "says" as elsewhere. */
public final class PackedSentencesTest {
  private static final int FIRST = 0x600;
  private static final int SECOND = 0x680;
  private static final String[] ADDING = {"FA", "FB"};

  public static void main(String[] args) {
    signs();
    noSigns();
    digitsAbove9();
    digitsOfTheFirst();
    signOfResults();
    zeroIsPositive();
    justRoom();
    noRoom();
    noRoomForAZero();
    decimalOverflow();
    sixteenBytes();
    comparison();
    comparisonStoresNothing();
    secondStays();
    overlaps();
    Bench.finish();
  }

  /** Does one instruction for two numbers, with their own lengths. */
  private static Bench done(String title, String op, String first, String second) {
    Bench bench = given(title + ": " + op + " " + first + " " + second, first, second);
    return bench.fine(code(op, first, second));
  }

  private static Bench given(String title, String first, String second) {
    return new Bench(title).put(FIRST, first + "EE").put(SECOND, second + "EE").set(Bench.CC, 3);
  }

  private static String code(String op, String first, String second) {
    return String.format("%s%X%X06000680", op, first.length() / 2 - 1, second.length() / 2 - 1);
  }

  private static void result(String says, String op, String first, String second, String result, int cc) {
    done(says, op, first, second).bytes(FIRST, result + "EE").cc(cc);
  }

  private static void signs() {
    String says = "13 and 11 negative, 10, 12, 14, 15 positive";
    for (String sign : new String[] {"A", "C", "E", "F"}) {
      result(says, "F8", "00", "7" + sign, "7C", 2);
      result(says, "FA", "2" + sign, "0C", "2C", 2);
      result(says, "FB", "0C", "2" + sign, "2D", 1);
      done(says, "F9", "1" + sign, "0C").cc(2);
    }
    for (String sign : new String[] {"B", "D"}) {
      result(says, "F8", "00", "7" + sign, "7D", 1);
      result(says, "FA", "2" + sign, "0C", "2D", 1);
      result(says, "FB", "0C", "2" + sign, "2C", 2);
      done(says, "F9", "1" + sign, "0C").cc(1);
    }
  }

  private static void wrong(String says, String op, String first, String second) {
    Bench bench = given(says + ": " + op + " " + first + " " + second, first, second);
    bench.fault(code(op, first, second), 7).bytes(FIRST, first + "EE").bytes(SECOND, second + "EE");
    bench.word(40, 0x00030007);
  }

  private static void noSigns() {
    String says = "else DATA, as for a digit above 9";
    for (int sign = 0; sign < 10; sign++) {
      for (String op : new String[] {"F8", "F9", "FA", "FB"}) {
        wrong(says, op, "001C", "00" + 1 + sign);
      }
      for (String op : new String[] {"F9", "FA", "FB"}) {
        wrong(says, op, "00" + 1 + sign, "001C");
      }
    }
  }

  private static void digitsAbove9() {
    String says = "else DATA, as for a digit above 9";
    for (int half = 0; half < 31; half++) {
      for (String digit : new String[] {"A", "F"}) {
        String number = "0".repeat(half) + digit + "0".repeat(30 - half) + "C";
        for (String op : new String[] {"F8", "F9", "FA", "FB"}) {
          wrong(says, op, "1C", number);
        }
        for (String op : new String[] {"F9", "FA", "FB"}) {
          wrong(says, op, number, "1C");
        }
      }
    }
    for (String op : ADDING) {
      given(says + ": 9 is right", "99999C", "00000C").fine(code(op, "99999C", "00000C"));
    }
  }

  private static void digitsOfTheFirst() {
    String says = "(For F8 the first one's digits are not looked at.";
    result(says, "F8", "FFFFFF", "012D", "00012D", 1);
    result(says, "F8", "000000", "005C", "00005C", 2);
    result(says, "F8", "AB", "5C", "5C", 2);
    done(says + ": nor those of an instruction before", "FA", "333C", "333C").fine("F811 0600 0680")
        .bytes(FIRST, "333C").cc(2);
  }

  private static void result(String says, String op, String[] row) {
    result(says, op, row[0], row[1], row[2], Integer.parseInt(row[3]));
  }

  private static void signOfResults() {
    String says = "A result has sign 12 or 13, 0 is positive; CC SIGN";
    String[][] sums = {
      {"5C", "3C", "8C", "2"}, {"5C", "3D", "2C", "2"}, {"3C", "5D", "2D", "1"}, {"3D", "5C", "2C", "2"},
      {"5D", "3C", "2D", "1"}, {"5D", "3D", "8D", "1"}, {"5F", "3F", "8C", "2"}, {"5B", "3B", "8D", "1"},
    };
    String[][] differences = {
      {"5C", "3D", "8C", "2"}, {"5C", "3C", "2C", "2"}, {"3C", "5C", "2D", "1"}, {"3D", "5D", "2C", "2"},
      {"5D", "3D", "2D", "1"}, {"5D", "3C", "8D", "1"}, {"5A", "3B", "8C", "2"}, {"3E", "5F", "2D", "1"},
    };
    for (String[] row : sums) {
      result(says, "FA", row);
    }
    for (String[] row : differences) {
      result(says, "FB", row);
    }
  }

  private static void zeroIsPositive() {
    String says = "A result has sign 12 or 13, 0 is positive; CC SIGN";
    for (String zero : new String[] {"000B", "000D", "000F", "000C"}) {
      result(says, "F8", "EEEE", zero, "000C", 0);
      for (String op : ADDING) {
        result(says, op, "0D", zero, "0C", 0);
        result(says, op, zero, "0B", "000C", 0);
      }
    }
    result(says, "FA", "123C", "123D", "000C", 0);
    result(says, "FA", "123D", "123C", "000C", 0);
    result(says, "FB", "123D", "123D", "000C", 0);
    result(says, "FB", "123C", "123C", "000C", 0);
  }

  private static void justRoom() {
    String says = "if it has not room for all digits";
    result(says, "F8", "EE", "00009D", "9D", 1);
    result(says, "F8", "EEEE", "0000999C", "999C", 2);
    result(says, "FA", "998C", "1C", "999C", 2);
    result(says, "FA", "998D", "00001D", "999D", 1);
    result(says, "FB", "998D", "1C", "999D", 1);
    result(says, "FB", "5C", "00009C", "4D", 1);
    result(says, "FA", "999C", "00999D", "000C", 0);
  }

  private static void noRoom() {
    String says = "the lowest ones are stored, with the sign (0 is positive), CC 3";
    result(says, "F8", "EE", "012C", "2C", 3);
    result(says, "F8", "EE", "012D", "2D", 3);
    result(says, "F8", "EEEE", "01001B", "001D", 3);
    result(says, "FA", "999C", "2C", "001C", 3);
    result(says, "FA", "999D", "2D", "001D", 3);
    result(says, "FB", "999D", "2C", "001D", 3);
    result(says, "FB", "1C", "012C", "1D", 3);
    result(says, "FA", "9C", "9C", "8C", 3);
    result(says, "FB", "5C", "01000C", "5D", 3);
  }

  private static void noRoomForAZero() {
    String says = "the lowest ones are stored, with the sign (0 is positive), CC 3";
    result(says, "F8", "EE", "010D", "0C", 3);
    result(says, "F8", "EE", "010C", "0C", 3);
    result(says, "FA", "999D", "1D", "000C", 3);
    result(says, "FA", "999C", "1C", "000C", 3);
    result(says, "FB", "999D", "1C", "000C", 3);
    result(says, "FB", "2C", "012C", "0C", 3);
  }

  private static void decimalOverflow() {
    String says = "then, if the MASK says so, DECIMAL OVERFLOW";
    String[][] rows = {
      {"F8", "EE", "012D", "2D"}, {"FA", "999C", "2C", "001C"}, {"FB", "999D", "1C", "000C"},
    };
    for (String[] row : rows) {
      String code = code(row[0], row[1], row[2]);
      given(says + ": " + code, row[1], row[2]).set(Bench.CC, 0).set(Bench.MASK, 16).fault(code, 10)
          .bytes(FIRST, row[3] + "EE").word(40, 0x1003000A);
      given(says + ": masked " + code, row[1], row[2]).set(Bench.CC, 0).set(Bench.MASK, 15).fine(code)
          .bytes(FIRST, row[3] + "EE").cc(3).looks(7, 0);
    }
    given(says + ": with room", "998C", "1C").set(Bench.MASK, 16).fine("FA10 0600 0680").cc(2);
  }

  private static void sixteenBytes() {
    String says = "At most 16 bytes each.";
    String nines = "9".repeat(31);
    String zeros = "0".repeat(30);
    result(says, "F8", "E".repeat(32), nines + "D", nines + "D", 1);
    result(says, "FA", nines + "C", zeros + "0D", nines + "C", 2);
    result(says, "FA", nines + "C", zeros + "1C", zeros + "0C", 3);
    result(says, "FA", nines + "D", nines + "D", "9".repeat(30) + "8D", 3);
    result(says, "FB", nines + "D", nines + "D", zeros + "0C", 0);
    result(says, "FB", zeros + "0C", nines + "C", nines + "D", 1);
    result(says, "FB", "1" + zeros + "C", zeros + "1C", "0" + "9".repeat(30) + "C", 2);
    result(says, "FA", "9C", nines + "C", "8C", 3);
    result(says, "F8", "EE", nines + "C", "9C", 3);
    done(says, "F9", nines + "D", nines + "B").cc(0);
    done(says, "F9", nines + "D", "9".repeat(30) + "8D").cc(1);
    done(says, "F9", "1" + zeros + "C", "9C").cc(2);
  }

  private static void comparison() {
    String says = "F9 compare: CC as 19, nothing is stored";
    String[] numbers = {"999D", "998D", "012B", "001D", "0D", "000C", "00000F", "1C", "0012A", "998C", "999E"};
    int[] values = {-999, -998, -12, -1, 0, 0, 0, 1, 12, 998, 999};
    for (int one = 0; one < numbers.length; one++) {
      for (int two = 0; two < numbers.length; two++) {
        int order = Integer.compare(values[one], values[two]);
        done(says, "F9", even(numbers[one]), even(numbers[two])).cc(order == 0 ? 0 : order < 0 ? 1 : 2);
      }
    }
  }

  private static String even(String halfBytes) {
    return halfBytes.length() % 2 == 0 ? halfBytes : "0" + halfBytes;
  }

  private static void comparisonStoresNothing() {
    String says = "F9 compare: CC as 19, nothing is stored";
    done(says, "F9", "00005B", "6F").bytes(FIRST, "00005BEE").bytes(SECOND, "6FEE");
    Bench closed = given(says, "5C", "5C").set(Bench.KEY, 3).set(Bench.BLOCK + 6, 4);
    closed.fine("F900 0600 0680").cc(0);
    Bench overflow = given(says, "5C", "999C").set(Bench.MASK, 16).fine("F901 0600 0680");
    overflow.cc(1).looks(7, 0);
  }

  private static void secondStays() {
    String says = "F8 the first one (L1 bytes) becomes the second one (L2)   FA first + second, FB first - second";
    for (String op : new String[] {"F8", "FA", "FB"}) {
      done(says, op, "123C", "00045B").bytes(SECOND, "00045BEE");
    }
  }

  private static void overlaps() {
    String says = "F8 the first one (L1 bytes) becomes the second one (L2)   FA first + second, FB first - second";
    new Bench(says + ": the same").put(FIRST, "123C").fine("FA11 0600 0600").bytes(FIRST, "246C").cc(2);
    new Bench(says + ": the same").put(FIRST, "123D").fine("FB11 0600 0600").bytes(FIRST, "000C").cc(0);
    new Bench(says + ": the tail").put(FIRST, "12345C").fine("FA20 0600 0602").bytes(FIRST, "12350C");
    new Bench(says + ": to the right").put(FIRST, "1C0000").fine("F820 0600 0600").bytes(FIRST, "00001C");
    new Bench(says + ": to the left").put(FIRST, "00456D").fine("F811 0600 0601").bytes(FIRST, "456D6D");
  }
}
