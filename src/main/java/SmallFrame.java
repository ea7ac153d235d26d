/**
 * A mainframe in small: a processor with storage in blocks, and a channel with a reader and a
 * printer. Every public call answers one promise of the document; a refused call changes nothing.
 */
public final class SmallFrame {
  private static final int STORAGE_SIZE = 2048;
  private static final int BLOCKS = 8;
  private static final int REGISTERS = 16;
  private static final int LONGEST_NUMBER = 8;
  private static final int MOST_AT_ONCE = 50;

  private static final int LOW_16_BITS = 0xFFFF;
  private static final int LOW_24_BITS = 0xFFFFFF;

  private static final int PART_ADDRESS = 16;
  private static final int PART_KEY = 17;
  private static final int PART_MASK = 18;
  private static final int PART_CC = 19;
  private static final int PART_BLOCKS = 20;

  private static final int MASK_EXTERNAL = 1;
  private static final int MASK_CHANNEL = 2;
  private static final int MASK_PROBLEM = 4;
  private static final int MASK_OVERFLOW = 8;
  private static final int MASK_DECIMAL_OVERFLOW = 16;

  private static final int OLD_EXTERNAL = 24;
  private static final int NEW_EXTERNAL = 88;
  private static final int OLD_SUPERVISOR = 32;
  private static final int NEW_SUPERVISOR = 96;
  private static final int OLD_PROGRAM = 40;
  private static final int NEW_PROGRAM = 104;
  private static final int OLD_CHANNEL = 56;
  private static final int NEW_CHANNEL = 120;
  private static final int CHANNEL_REPORT = 64;
  private static final int CHANNEL_CHAIN = 72;
  private static final int TIMER = 80;
  private static final int TIMER_CODE = 128;

  /** What an instruction answers when nothing went wrong; else it is one of the codes below. */
  private static final int FINE = 0;
  private static final int OPERATION = 1;
  private static final int PRIVILEGED = 2;
  private static final int PROTECTION = 4;
  private static final int ADDRESSING = 5;
  private static final int SPECIFICATION = 6;
  private static final int DATA = 7;
  private static final int OVERFLOW = 8;
  private static final int DIVIDE = 9;
  private static final int DECIMAL_OVERFLOW = 10;

  private final Processor processor;

  public SmallFrame() {
    processor = new Processor();
  }

  public boolean load(int address, long bytes, int n) {
    if (n < 1 || n > LONGEST_NUMBER || !Storage.holds(address, n)) {
      return false;
    }
    for (int k = 0; k < n; k++) {
      processor.storage.putByte(address + k, byteOf(bytes, n - 1 - k));
    }
    return true;
  }

  public int word(int address) {
    return processor.storage.wordAt(address);
  }

  public boolean set(int what, int value) {
    if (what < 0 || what >= PART_BLOCKS + BLOCKS) {
      return false;
    }
    if (what < REGISTERS) {
      processor.putRegister(what, value);
    } else if (what >= PART_BLOCKS) {
      processor.storage.putKey(what - PART_BLOCKS, value);
    } else {
      processor.status.putPart(what, value);
    }
    return true;
  }

  public int get(int what) {
    if (what < 0 || what >= PART_BLOCKS + BLOCKS) {
      return -1;
    }
    if (what < REGISTERS) {
      return processor.register(what);
    }
    if (what >= PART_BLOCKS) {
      return processor.storage.keyOfBlock(what - PART_BLOCKS);
    }
    return processor.status.part(what);
  }

  public boolean punch(long bytes, int n) {
    Reader reader = processor.channel.reader;
    if (n < 1 || n > LONGEST_NUMBER || !reader.hasRoomFor(n)) {
      return false;
    }
    for (int k = n - 1; k >= 0; k--) {
      reader.append(byteOf(bytes, k));
    }
    return true;
  }

  public boolean card() {
    return processor.channel.reader.queueRecord();
  }

  public int step(int n) {
    if (n < 1 || n > MOST_AT_ONCE) {
      return -1;
    }
    int before = processor.programInterruptions;
    for (int k = 0; k < n; k++) {
      processor.makeStep();
    }
    return processor.programInterruptions - before;
  }

  public int channel(int n) {
    if (n < 1 || n > MOST_AT_ONCE) {
      return -1;
    }
    int moves = 0;
    while (moves < n && processor.channel.works) {
      processor.channel.makeMove(processor.storage);
      moves++;
    }
    return moves;
  }

  public int look(int what) {
    Channel channel = processor.channel;
    switch (what) {
      case 0: return channel.works ? 1 : 0;
      case 1: return channel.waits ? 1 : 0;
      case 2: return processor.externalWaits ? 1 : 0;
      case 3: return channel.reader.waiting;
      case 4: return channel.printer.lines;
      case 5: return channel.printer.length;
      case 6: return processor.steps;
      case 7: return processor.latestCode;
      default: return -1;
    }
  }

  public int printed(int k) {
    return processor.channel.printer.byteOfLine(k);
  }

  /** Byte k of a number, counted from its lowest one. */
  private static int byteOf(long number, int k) {
    return (int) (number >>> (8 * k)) & 255;
  }

  /** The CC of a comparison; against 0 it is the CC that the document calls SIGN. */
  private static int order(long one, long other) {
    if (one == other) {
      return 0;
    }
    return one < other ? 1 : 2;
  }

  /** The bytes and the keys of the blocks; places outside read as 0 and take nothing. */
  private static final class Storage {
    private final byte[] bytes;
    private final int[] keys;

    Storage() {
      bytes = new byte[STORAGE_SIZE];
      keys = new int[BLOCKS];
    }

    static boolean holds(int place, int length) {
      return place >= 0 && place <= STORAGE_SIZE - length;
    }

    int byteAt(int place) {
      return place >= 0 && place < STORAGE_SIZE ? bytes[place] & 255 : 0;
    }

    void putByte(int place, int value) {
      if (place >= 0 && place < STORAGE_SIZE) {
        bytes[place] = (byte) value;
      }
    }

    /** A halfword without sign. */
    int halfAt(int place) {
      return byteAt(place) << 8 | byteAt(place + 1);
    }

    int wordAt(int place) {
      int word = 0;
      for (int k = 0; k < 4; k++) {
        word = word << 8 | byteAt(place + k);
      }
      return word;
    }

    void putHalf(int place, int value) {
      putByte(place, value >> 8);
      putByte(place + 1, value);
    }

    void putWord(int place, int value) {
      for (int k = 0; k < 4; k++) {
        putByte(place + k, byteOf(value, 3 - k));
      }
    }

    int keyOfBlock(int block) {
      return keys[block & (BLOCKS - 1)];
    }

    void putKey(int block, int key) {
      keys[block & (BLOCKS - 1)] = key & 15;
    }

    /** Whether somebody with that key may store there; the bytes are known to lie in storage. */
    boolean isOpen(int place, int length, int key) {
      if (key == 0) {
        return true;
      }
      int last = Math.min((place + length - 1) >> 8, BLOCKS - 1);
      for (int block = place >> 8; block <= last; block++) {
        if (keyOfBlock(block) != key) {
          return false;
        }
      }
      return true;
    }
  }

  /** The program status: what an interruption changes for another one. */
  private static final class Status {
    int mask;
    int key;
    int cc;
    int address;

    int part(int what) {
      switch (what) {
        case PART_ADDRESS: return address;
        case PART_KEY: return key;
        case PART_MASK: return mask;
        case PART_CC: return cc;
        default: return -1;
      }
    }

    void putPart(int what, int value) {
      switch (what) {
        case PART_ADDRESS: goTo(value); break;
        case PART_KEY: key = value & 15; break;
        case PART_MASK: mask = value & 31; break;
        case PART_CC: cc = value & 3; break;
        default: break;
      }
    }

    void goTo(int place) {
      address = place & LOW_16_BITS;
    }

    boolean allows(int bit) {
      return (mask & bit) != 0;
    }

    void putTo(Storage storage, int place, int code) {
      storage.putByte(place, mask);
      storage.putByte(place + 1, key * 16 + cc);
      storage.putHalf(place + 2, code);
      storage.putHalf(place + 4, 0);
      storage.putHalf(place + 6, address);
    }

    void loadFrom(Storage storage, int place) {
      int keyAndCc = storage.byteAt(place + 1);
      mask = storage.byteAt(place) & 31;
      key = keyAndCc >> 4;
      cc = keyAndCc & 3;
      address = storage.halfAt(place + 6);
    }
  }

  /** A packed number outside storage: its digits, the lowest first, and its sign; 0 is positive. */
  private static final class Packed {
    /** One more than sixteen bytes hold, for the carry of a sum. */
    private static final int DIGITS = 32;
    private static final int DIGITS_IN_EIGHT_BYTES = 15;
    private static final int SIGN_POSITIVE = 12;
    private static final int SIGN_NEGATIVE = 13;
    private static final int OTHER_SIGN_NEGATIVE = 11;

    private final int[] digits;
    private boolean negative;

    Packed() {
      digits = new int[DIGITS];
    }

    void becomeInt(int number) {
      negative = number < 0;
      long rest = Math.abs((long) number);
      for (int k = 0; k < DIGITS; k++) {
        digits[k] = (int) (rest % 10);
        rest = rest / 10;
      }
    }

    /** Reads the number that stands in storage; false if a half byte is wrong there. */
    boolean takeFrom(Storage storage, int place, int length) {
      int held = 2 * length - 1;
      for (int k = 0; k < DIGITS; k++) {
        digits[k] = k < held ? halfByte(storage, place + length - 1, k + 1) : 0;
        if (digits[k] > 9) {
          return false;
        }
      }
      int sign = halfByte(storage, place + length - 1, 0);
      negative = (sign == SIGN_NEGATIVE || sign == OTHER_SIGN_NEGATIVE) && !isZero(DIGITS);
      return sign > 9;
    }

    /** Half byte k of a field, counted back from the lower half of its last byte. */
    private static int halfByte(Storage storage, int last, int k) {
      int both = storage.byteAt(last - k / 2);
      return k % 2 == 0 ? both & 15 : both >> 4;
    }

    /** Stores the lowest digits that have room, and the sign; false if some had no room. */
    boolean putTo(Storage storage, int place, int length) {
      int room = 2 * length - 1;
      int sign = negative && !isZero(room) ? SIGN_NEGATIVE : SIGN_POSITIVE;
      storage.putByte(place + length - 1, digits[0] << 4 | sign);
      for (int k = 1; k + 1 < room && k + 1 < DIGITS; k += 2) {
        storage.putByte(place + length - 2 - k / 2, digits[k + 1] << 4 | digits[k]);
      }
      return isWithin(room);
    }

    private boolean isZero(int lowest) {
      for (int k = 0; k < lowest && k < DIGITS; k++) {
        if (digits[k] != 0) {
          return false;
        }
      }
      return true;
    }

    private boolean isWithin(int room) {
      for (int k = DIGITS - 1; k >= room && k >= 0; k--) {
        if (digits[k] != 0) {
          return false;
        }
      }
      return true;
    }

    void add(Packed other) {
      addSigned(other, other.negative);
    }

    void subtract(Packed other) {
      addSigned(other, !other.negative);
    }

    private void addSigned(Packed other, boolean otherNegative) {
      if (negative == otherNegative) {
        addDigits(other);
      } else if (orderOfDigits(other) == 1) {
        takeDifference(other.digits, digits);
        negative = otherNegative;
      } else {
        takeDifference(digits, other.digits);
      }
      negative = negative && !isZero(DIGITS);
    }

    private void addDigits(Packed other) {
      int carry = 0;
      for (int k = 0; k < DIGITS; k++) {
        int sum = digits[k] + other.digits[k] + carry;
        carry = sum > 9 ? 1 : 0;
        digits[k] = sum - 10 * carry;
      }
    }

    /** Both rows are those of packed numbers, so they are DIGITS long. */
    private void takeDifference(int[] larger, int[] smaller) {
      int borrow = 0;
      for (int k = 0; k < DIGITS; k++) {
        int difference = larger[k] - smaller[k] - borrow;
        borrow = difference < 0 ? 1 : 0;
        digits[k] = difference + 10 * borrow;
      }
    }

    private int orderOfDigits(Packed other) {
      for (int k = DIGITS - 1; k >= 0; k--) {
        if (digits[k] != other.digits[k]) {
          return digits[k] < other.digits[k] ? 1 : 2;
        }
      }
      return 0;
    }

    /** The CC of a comparison with another number. */
    int orderWith(Packed other) {
      if (negative != other.negative) {
        return negative ? 1 : 2;
      }
      return negative ? other.orderOfDigits(this) : orderOfDigits(other);
    }

    int signCode() {
      if (negative) {
        return 1;
      }
      return isZero(DIGITS) ? 0 : 2;
    }

    /** The value of a number that came from eight bytes: a longer one might be no long. */
    long value() {
      long value = 0;
      for (int k = DIGITS_IN_EIGHT_BYTES - 1; k >= 0; k--) {
        value = value * 10 + digits[k];
      }
      return negative ? -value : value;
    }
  }

  /** The records: one that is being made, those that wait, and the one that is being read. */
  private static final class Reader {
    private static final int RECORD_SIZE = 16;
    private static final int MOST_WAITING = 8;

    private final byte[] making;
    private int made;
    private final byte[] queue;
    private final int[] lengths;
    private int front;
    int waiting;
    private final byte[] record;
    private int recordLength;
    private int taken;

    Reader() {
      making = new byte[RECORD_SIZE];
      queue = new byte[MOST_WAITING * RECORD_SIZE];
      lengths = new int[MOST_WAITING];
      record = new byte[RECORD_SIZE];
    }

    boolean hasRoomFor(int more) {
      return made + more <= RECORD_SIZE;
    }

    void append(int value) {
      if (made >= 0 && made < RECORD_SIZE) {
        making[made] = (byte) value;
        made++;
      }
    }

    boolean queueRecord() {
      if (waiting >= MOST_WAITING) {
        return false;
      }
      int seat = (front + waiting) & (MOST_WAITING - 1);
      System.arraycopy(making, 0, queue, seat * RECORD_SIZE, RECORD_SIZE);
      lengths[seat] = made;
      made = 0;
      waiting++;
      return true;
    }

    /** Goes on to the next record; false if none waits. */
    boolean openRecord() {
      if (waiting == 0) {
        return false;
      }
      int seat = front & (MOST_WAITING - 1);
      System.arraycopy(queue, seat * RECORD_SIZE, record, 0, RECORD_SIZE);
      recordLength = lengths[seat];
      taken = 0;
      front = (seat + 1) & (MOST_WAITING - 1);
      waiting--;
      return true;
    }

    boolean isAtEnd() {
      return taken >= recordLength;
    }

    int nextByte() {
      int value = taken >= 0 && taken < RECORD_SIZE ? record[taken] & 255 : 0;
      taken++;
      return value;
    }

    void skipByte() {
      taken++;
    }
  }

  /** The latest line: all its bytes are counted, the first ones are kept. */
  private static final class Printer {
    private static final int KEPT = 32;

    private final byte[] line;
    int lines;
    int length;

    Printer() {
      line = new byte[KEPT];
    }

    void beginLine() {
      lines++;
      length = 0;
    }

    void print(int value) {
      if (length >= 0 && length < KEPT) {
        line[length] = (byte) value;
      }
      length++;
    }

    int byteOfLine(int k) {
      return k >= 0 && k < length && k < KEPT ? line[k] & 255 : -1;
    }
  }

  /** Runs a chain of command words for one device at a time. */
  private static final class Channel {
    private static final int READER = 1;
    private static final int PRINTER = 2;
    private static final int WORD_SIZE = 8;
    private static final int WRITE = 1;
    private static final int READ = 2;
    private static final int JUMP = 8;
    private static final int DATA_CHAIN = 128;
    private static final int COMMAND_CHAIN = 64;
    private static final int ANY_LENGTH = 32;
    private static final int SKIP = 16;
    private static final int UNIT_ENDED = 12;
    private static final int UNIT_NO_RECORD = 13;
    private static final int CHECK_LENGTH = 64;
    private static final int CHECK_PROGRAM = 32;
    private static final int CHECK_PROTECTION = 16;

    final Reader reader;
    final Printer printer;
    boolean works;
    boolean waits;
    int device;
    private int key;
    private int place;
    private boolean hasCommand;
    private boolean dataChained;
    private boolean jumped;
    private int address;
    private int flags;
    private int count;
    private int unit;
    private int check;

    Channel() {
      reader = new Reader();
      printer = new Printer();
    }

    /** START of a device: answers its CC. */
    int start(Storage storage, int wanted) {
      if (wanted != READER && wanted != PRINTER) {
        return 3;
      }
      if (works || waits) {
        return 2;
      }
      int chain = storage.wordAt(CHANNEL_CHAIN);
      device = wanted;
      key = chain >>> 28;
      place = chain & LOW_24_BITS;
      hasCommand = false;
      dataChained = false;
      jumped = false;
      works = true;
      return 0;
    }

    /** The CC of a question about the channel; what waited is taken by it. */
    int test() {
      if (works) {
        return 2;
      }
      int code = waits ? 1 : 0;
      waits = false;
      return code;
    }

    void makeMove(Storage storage) {
      if (hasCommand) {
        moveByte(storage);
      } else {
        takeCommand(storage);
      }
      if (!works) {
        putReport(storage);
      }
    }

    private void takeCommand(Storage storage) {
      int from = place;
      place = (from + WORD_SIZE) & LOW_24_BITS;
      if (from % WORD_SIZE != 0 || !Storage.holds(from, WORD_SIZE)) {
        count = 0;
        end(0, CHECK_PROGRAM);
        return;
      }
      int told = storage.byteAt(from);
      address = storage.wordAt(from) & LOW_24_BITS;
      flags = storage.byteAt(from + 4);
      count = storage.halfAt(from + 6);
      if (!isTakeable(told)) {
        end(0, CHECK_PROGRAM);
      } else if (told == JUMP) {
        place = address;
        jumped = true;
      } else {
        jumped = false;
        beginCommand();
      }
    }

    private boolean isTakeable(int told) {
      if (told == JUMP) {
        return !jumped;
      }
      return count != 0 && (dataChained || told == (isReading() ? READ : WRITE));
    }

    /** The device alone decides, since a command of the other device is never taken. */
    private boolean isReading() {
      return device == READER;
    }

    private void beginCommand() {
      hasCommand = true;
      if (dataChained) {
        return;
      }
      if (!isReading()) {
        printer.beginLine();
      } else if (!reader.openRecord()) {
        end(UNIT_NO_RECORD, 0);
      } else if (reader.isAtEnd()) {
        finishCommand();
      }
    }

    private void moveByte(Storage storage) {
      boolean stores = isReading() && !flagged(SKIP);
      if (!Storage.holds(address, 1)) {
        end(0, CHECK_PROGRAM);
        return;
      }
      if (stores && !storage.isOpen(address, 1, key)) {
        end(0, CHECK_PROTECTION);
        return;
      }
      if (stores) {
        storage.putByte(address, reader.nextByte());
      } else if (isReading()) {
        reader.skipByte();
      } else {
        printer.print(storage.byteAt(address));
      }
      address++;
      count--;
      goOn();
    }

    /** A record without more bytes ends its command even where a data chain would go on. */
    private void goOn() {
      if (isReading() && reader.isAtEnd()) {
        finishCommand();
      } else if (count == 0 && flagged(DATA_CHAIN)) {
        hasCommand = false;
        dataChained = true;
      } else if (count == 0) {
        finishCommand();
      }
    }

    private boolean flagged(int flag) {
      return (flags & flag) != 0;
    }

    private void finishCommand() {
      hasCommand = false;
      dataChained = false;
      boolean wrongLength = isReading() && (count != 0 || !reader.isAtEnd());
      if (wrongLength && !flagged(ANY_LENGTH)) {
        end(UNIT_ENDED, CHECK_LENGTH);
      } else if (!flagged(COMMAND_CHAIN)) {
        end(UNIT_ENDED, 0);
      }
    }

    private void end(int unitTold, int checkTold) {
      unit = unitTold;
      check = checkTold;
      works = false;
      waits = true;
    }

    private void putReport(Storage storage) {
      storage.putWord(CHANNEL_REPORT, key << 28 | place);
      storage.putByte(CHANNEL_REPORT + 4, unit);
      storage.putByte(CHANNEL_REPORT + 5, check);
      storage.putHalf(CHANNEL_REPORT + 6, count);
    }
  }

  /** Does the steps: interruptions that wait, the timer, and the instructions. */
  private static final class Processor {
    private static final int WORD = 4;
    private static final int HALFWORD = 2;
    private static final int BYTE = 1;
    private static final int DOUBLEWORD = 8;
    private static final int TABLE_SIZE = 256;

    final Storage storage;
    final Status status;
    final Channel channel;
    private final int[] registers;
    private final Packed first;
    private final Packed second;
    boolean externalWaits;
    int steps;
    int programInterruptions;
    int latestCode;

    /** The instruction that is being done: its bytes, and where its operands lie. */
    private int operation;
    private int immediate;
    private int r;
    private int s;
    private int place;
    private int otherPlace;

    Processor() {
      storage = new Storage();
      status = new Status();
      channel = new Channel();
      registers = new int[REGISTERS];
      first = new Packed();
      second = new Packed();
    }

    int register(int n) {
      return registers[n & (REGISTERS - 1)];
    }

    void putRegister(int n, int value) {
      registers[n & (REGISTERS - 1)] = value;
    }

    void makeStep() {
      steps++;
      if (takeInterruption()) {
        return;
      }
      runTimer();
      int code = fetchInstruction();
      if (code == FINE) {
        switch (operation >> 6) {
          case 0: code = doRr(); break;
          case 1: code = doRx(); break;
          case 2: code = doRsOrSi(); break;
          default: code = doSs(); break;
        }
      }
      if (code != FINE) {
        programInterruptions++;
        latestCode = code;
        interrupt(OLD_PROGRAM, NEW_PROGRAM, code);
      }
    }

    /** Takes the interruption that waits and is allowed; false if there is none. */
    private boolean takeInterruption() {
      if (externalWaits && status.allows(MASK_EXTERNAL)) {
        externalWaits = false;
        interrupt(OLD_EXTERNAL, NEW_EXTERNAL, TIMER_CODE);
        return true;
      }
      if (channel.waits && status.allows(MASK_CHANNEL)) {
        channel.waits = false;
        interrupt(OLD_CHANNEL, NEW_CHANNEL, channel.device);
        return true;
      }
      return false;
    }

    private void runTimer() {
      int left = storage.wordAt(TIMER) - 1;
      storage.putWord(TIMER, left);
      if (left == -1) {
        externalWaits = true;
      }
    }

    private void interrupt(int oldPlace, int newPlace, int code) {
      status.putTo(storage, oldPlace, code);
      status.loadFrom(storage, newPlace);
    }

    /** PRIVILEGED can come before OPERATION: an operation that there is not has no mark. */
    private int fetchInstruction() {
      int from = status.address;
      operation = storage.byteAt(from);
      int length = lengthOf(operation);
      status.goTo(from + length);
      if (from % 2 != 0) {
        return SPECIFICATION;
      }
      if (!Storage.holds(from, length)) {
        return ADDRESSING;
      }
      if (isPrivileged() && status.allows(MASK_PROBLEM)) {
        return PRIVILEGED;
      }
      decode(from);
      return FINE;
    }

    /** A first byte beyond storage reads as 0, so it has the length 2 that it should have. */
    private static int lengthOf(int firstByte) {
      if (firstByte < 64) {
        return 2;
      }
      return firstByte < 192 ? 4 : 6;
    }

    private boolean isPrivileged() {
      switch (operation) {
        case 0x08: case 0x09: case 0x82: case 0x9C: case 0x9D: return true;
        default: return false;
      }
    }

    private void decode(int from) {
      immediate = storage.byteAt(from + 1);
      r = immediate >> 4;
      s = immediate & 15;
      boolean indexed = operation >> 6 == 1;
      place = operandAt(from + 2, indexed ? s : 0);
      otherPlace = operandAt(from + 4, 0);
    }

    /** What lies behind a shorter instruction is read as an operand too, and used by none. */
    private int operandAt(int from, int index) {
      int baseAndDistance = storage.halfAt(from);
      int base = baseAndDistance >> 12;
      int sum = baseAndDistance & 0xFFF;
      sum += base == 0 ? 0 : register(base);
      sum += index == 0 ? 0 : register(index);
      return sum & LOW_24_BITS;
    }

    /** What is wrong with an operand that is read, in the order in which it is told. */
    private static int readFault(int from, int length, int multiple) {
      if ((from & (multiple - 1)) != 0) {
        return SPECIFICATION;
      }
      return Storage.holds(from, length) ? FINE : ADDRESSING;
    }

    private int storeFault(int from, int length, int multiple) {
      int fault = readFault(from, length, multiple);
      if (fault != FINE) {
        return fault;
      }
      return storage.isOpen(from, length, status.key) ? FINE : PROTECTION;
    }

    private int doRr() {
      switch (operation) {
        case 0x05: return linkToRegister();
        case 0x07: return s == 0 ? FINE : branchIfAsked(register(s));
        case 0x08: return putBlockKey();
        case 0x09: return takeBlockKey();
        case 0x0A: return callSupervisor();
        case 0x12: return loadAndTest();
        case 0x14: return putLogical(register(r) & register(s));
        case 0x16: return putLogical(register(r) | register(s));
        case 0x17: return putLogical(register(r) ^ register(s));
        case 0x18: case 0x19: case 0x1A: case 0x1B: return combine(register(s));
        case 0x1C: return multiply();
        case 0x1D: return divide();
        default: return OPERATION;
      }
    }

    private int linkToRegister() {
      int target = register(s);
      putRegister(r, status.address);
      if (s != 0) {
        status.goTo(target);
      }
      return FINE;
    }

    private int branchIfAsked(int target) {
      if ((r & 8 >> status.cc) != 0) {
        status.goTo(target);
      }
      return FINE;
    }

    private int putBlockKey() {
      storage.putKey(blockInRegister(), register(r) >> 4);
      return FINE;
    }

    private int takeBlockKey() {
      int key = storage.keyOfBlock(blockInRegister());
      putRegister(r, register(r) & ~255 | key * 16);
      return FINE;
    }

    private int blockInRegister() {
      return (register(s) & (STORAGE_SIZE - 1)) >> 8;
    }

    private int callSupervisor() {
      interrupt(OLD_SUPERVISOR, NEW_SUPERVISOR, immediate);
      return FINE;
    }

    private int loadAndTest() {
      putRegister(r, register(s));
      status.cc = order(register(r), 0);
      return FINE;
    }

    private int putLogical(int result) {
      putRegister(r, result);
      status.cc = result == 0 ? 0 : 1;
      return FINE;
    }

    /** The last half byte of the operation means the same for registers, words and halfwords. */
    private int combine(int value) {
      switch (operation & 15) {
        case 0x8:
          putRegister(r, value);
          return FINE;
        case 0x9:
          status.cc = order(register(r), value);
          return FINE;
        case 0xA:
          return putSum((long) register(r) + value);
        default:
          return putSum((long) register(r) - value);
      }
    }

    private int putSum(long exact) {
      int wrapped = (int) exact;
      putRegister(r, wrapped);
      if (wrapped == exact) {
        status.cc = order(wrapped, 0);
        return FINE;
      }
      status.cc = 3;
      return status.allows(MASK_OVERFLOW) ? OVERFLOW : FINE;
    }

    private int multiply() {
      if (r % 2 != 0) {
        return SPECIFICATION;
      }
      long product = (long) register(r + 1) * register(s);
      putRegister(r, (int) (product >> 32));
      putRegister(r + 1, (int) product);
      return FINE;
    }

    private int divide() {
      if (r % 2 != 0) {
        return SPECIFICATION;
      }
      long divisor = register(s);
      if (divisor == 0) {
        return DIVIDE;
      }
      long dividend = (long) register(r) << 32 | register(r + 1) & 0xFFFFFFFFL;
      long quotient = dividend / divisor;
      if (quotient != (int) quotient) {
        return DIVIDE;
      }
      putRegister(r, (int) (dividend % divisor));
      putRegister(r + 1, (int) quotient);
      return FINE;
    }

    private int doRx() {
      switch (operation) {
        case 0x40: return storeHalfword();
        case 0x41: return loadAddress();
        case 0x42: return storeByte(register(r));
        case 0x43: return insertByte();
        case 0x45: return linkToPlace();
        case 0x46: return countAndBranch();
        case 0x47: return branchIfAsked(place);
        case 0x48: case 0x49: case 0x4A: return combineHalfword();
        case 0x4E: return convertToPacked();
        case 0x4F: return convertToInt();
        case 0x50: return storeWord();
        case 0x58: case 0x59: case 0x5A: case 0x5B: return combineWord();
        default: return OPERATION;
      }
    }

    private int storeHalfword() {
      int fault = storeFault(place, HALFWORD, HALFWORD);
      if (fault == FINE) {
        storage.putHalf(place, register(r));
      }
      return fault;
    }

    private int storeWord() {
      int fault = storeFault(place, WORD, WORD);
      if (fault == FINE) {
        storage.putWord(place, register(r));
      }
      return fault;
    }

    private int storeByte(int value) {
      int fault = storeFault(place, BYTE, BYTE);
      if (fault == FINE) {
        storage.putByte(place, value);
      }
      return fault;
    }

    private int loadAddress() {
      putRegister(r, place);
      return FINE;
    }

    private int insertByte() {
      int fault = readFault(place, BYTE, BYTE);
      if (fault == FINE) {
        putRegister(r, register(r) & ~255 | storage.byteAt(place));
      }
      return fault;
    }

    private int linkToPlace() {
      putRegister(r, status.address);
      status.goTo(place);
      return FINE;
    }

    private int countAndBranch() {
      putRegister(r, register(r) - 1);
      if (register(r) != 0) {
        status.goTo(place);
      }
      return FINE;
    }

    private int combineHalfword() {
      int fault = readFault(place, HALFWORD, HALFWORD);
      return fault == FINE ? combine((short) storage.halfAt(place)) : fault;
    }

    private int combineWord() {
      int fault = readFault(place, WORD, WORD);
      return fault == FINE ? combine(storage.wordAt(place)) : fault;
    }

    private int convertToPacked() {
      int fault = storeFault(place, DOUBLEWORD, DOUBLEWORD);
      if (fault == FINE) {
        first.becomeInt(register(r));
        first.putTo(storage, place, DOUBLEWORD);
      }
      return fault;
    }

    private int convertToInt() {
      int fault = readFault(place, DOUBLEWORD, DOUBLEWORD);
      if (fault != FINE) {
        return fault;
      }
      if (!first.takeFrom(storage, place, DOUBLEWORD)) {
        return DATA;
      }
      long value = first.value();
      if (value != (int) value) {
        return DIVIDE;
      }
      putRegister(r, (int) value);
      return FINE;
    }

    private int doRsOrSi() {
      switch (operation) {
        case 0x82: return loadStatus();
        case 0x88: return shift(register(r) >>> (place & 31), 0);
        case 0x89: return shift(register(r) << (place & 31), 0);
        case 0x8A: return shiftWithSign();
        case 0x90: return storeRegisters();
        case 0x91: return testBits();
        case 0x92: return storeByte(immediate);
        case 0x94: return storeLogical(storage.byteAt(place) & immediate);
        case 0x95: return compareByte();
        case 0x96: return storeLogical(storage.byteAt(place) | immediate);
        case 0x98: return loadRegisters();
        case 0x9C: return startChannel();
        case 0x9D: return testChannel();
        default: return OPERATION;
      }
    }

    /** Java's shifts look at five bits alone, so the sixth one is looked at here. */
    private int shift(int within, int beyond) {
      putRegister(r, (place & 32) == 0 ? within : beyond);
      return FINE;
    }

    private int shiftWithSign() {
      shift(register(r) >> (place & 31), register(r) >> 31);
      status.cc = order(register(r), 0);
      return FINE;
    }

    private int storeRegisters() {
      int n = registersNamed();
      int fault = storeFault(place, n * WORD, WORD);
      if (fault != FINE) {
        return fault;
      }
      for (int k = 0; k < n; k++) {
        storage.putWord(place + k * WORD, register(r + k));
      }
      return FINE;
    }

    private int loadRegisters() {
      int n = registersNamed();
      int fault = readFault(place, n * WORD, WORD);
      if (fault != FINE) {
        return fault;
      }
      for (int k = 0; k < n; k++) {
        putRegister(r + k, storage.wordAt(place + k * WORD));
      }
      return FINE;
    }

    private int registersNamed() {
      return (s - r & (REGISTERS - 1)) + 1;
    }

    private int loadStatus() {
      int fault = readFault(place, DOUBLEWORD, DOUBLEWORD);
      if (fault == FINE) {
        status.loadFrom(storage, place);
      }
      return fault;
    }

    private int testBits() {
      int fault = readFault(place, BYTE, BYTE);
      if (fault != FINE) {
        return fault;
      }
      int bits = storage.byteAt(place) & immediate;
      if (bits == 0) {
        status.cc = 0;
      } else {
        status.cc = bits == immediate ? 3 : 1;
      }
      return FINE;
    }

    private int storeLogical(int result) {
      int fault = storeFault(place, BYTE, BYTE);
      if (fault == FINE) {
        storage.putByte(place, result);
        status.cc = result == 0 ? 0 : 1;
      }
      return fault;
    }

    private int compareByte() {
      int fault = readFault(place, BYTE, BYTE);
      if (fault == FINE) {
        status.cc = order(storage.byteAt(place), immediate);
      }
      return fault;
    }

    private int startChannel() {
      status.cc = channel.start(storage, immediate);
      return FINE;
    }

    private int testChannel() {
      status.cc = channel.test();
      return FINE;
    }

    private int doSs() {
      switch (operation) {
        case 0xD2: return moveBytes();
        case 0xD5: return compareBytes();
        case 0xDC: return translateBytes();
        case 0xF8: case 0xFA: case 0xFB: return calculatePacked();
        case 0xF9: return comparePacked();
        default: return OPERATION;
      }
    }

    private int moveBytes() {
      int length = immediate + 1;
      int fault = faultOfPair(storeFault(place, length, BYTE), length);
      if (fault != FINE) {
        return fault;
      }
      for (int k = 0; k < length; k++) {
        storage.putByte(place + k, storage.byteAt(otherPlace + k));
      }
      return FINE;
    }

    /** The second operand is never stored, and looked at only if the first one is right. */
    private int faultOfPair(int faultOfFirst, int otherLength) {
      return faultOfFirst == FINE ? readFault(otherPlace, otherLength, BYTE) : faultOfFirst;
    }

    private int compareBytes() {
      int length = immediate + 1;
      int fault = faultOfPair(readFault(place, length, BYTE), length);
      if (fault != FINE) {
        return fault;
      }
      status.cc = 0;
      for (int k = 0; k < length && status.cc == 0; k++) {
        status.cc = order(storage.byteAt(place + k), storage.byteAt(otherPlace + k));
      }
      return FINE;
    }

    private int translateBytes() {
      int length = immediate + 1;
      int fault = faultOfPair(storeFault(place, length, BYTE), TABLE_SIZE);
      if (fault != FINE) {
        return fault;
      }
      for (int k = 0; k < length; k++) {
        int entry = otherPlace + storage.byteAt(place + k);
        storage.putByte(place + k, storage.byteAt(entry));
      }
      return FINE;
    }

    private int calculatePacked() {
      int fault = faultOfPair(storeFault(place, r + 1, BYTE), s + 1);
      if (fault != FINE) {
        return fault;
      }
      if (!second.takeFrom(storage, otherPlace, s + 1)) {
        return DATA;
      }
      if (operation == 0xF8) {
        first.becomeInt(0);
      } else if (!first.takeFrom(storage, place, r + 1)) {
        return DATA;
      }
      if (operation == 0xFB) {
        first.subtract(second);
      } else {
        first.add(second);
      }
      return putPacked();
    }

    private int putPacked() {
      if (first.putTo(storage, place, r + 1)) {
        status.cc = first.signCode();
        return FINE;
      }
      status.cc = 3;
      return status.allows(MASK_DECIMAL_OVERFLOW) ? DECIMAL_OVERFLOW : FINE;
    }

    private int comparePacked() {
      int fault = faultOfPair(readFault(place, r + 1, BYTE), s + 1);
      if (fault != FINE) {
        return fault;
      }
      boolean right = first.takeFrom(storage, place, r + 1);
      if (!right || !second.takeFrom(storage, otherPlace, s + 1)) {
        return DATA;
      }
      status.cc = first.orderWith(second);
      return FINE;
    }
  }
}
