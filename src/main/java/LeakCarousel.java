/** A carousel of heads that test parts for leaks, as ../shared/DOC.md promises it. */
public final class LeakCarousel {
  public static final int UNKNOWN = -1;
  public static final int BAD_VALUE = -2;
  public static final int FULL = -3;
  public static final int NOT_POSSIBLE = -4;
  public static final int NONE = -5;

  private static final int FEWEST_HEADS = 2;
  private static final int MOST_HEADS = 8;
  private static final int HEADS_AT_FIRST = 4;
  private static final int MOST_WEAR = 1000;
  private static final int MOST_INTERVAL = 99;
  private static final int INTERVAL_AT_FIRST = 20;
  private static final int MOST_STEPS = 40;
  private static final int MOST_PARTS = 60;
  private static final int MOST_LEAK = 99999;
  private static final int MOST_VOLUME = 999;
  private static final int LEAK_DIGITS = 5;
  private static final int VOLUME_DIGITS = 3;
  private static final int MOST_RETESTS = 2;
  private static final int MASTER_VOLUME = 100;
  private static final int MOST_SIGNS = 60;
  private static final int MOST_STATES = 4;

  private static final int ANY_PART = 0;
  private static final int PIPES_ONLY = 2;

  /** Of a place for a part that has not been added. */
  private static final int ABSENT = -1;
  private static final int WAITING = 0;
  private static final int ON_HEAD = 1;
  private static final int ACCEPTED = 2;
  private static final int REJECTED = 3;

  private static final int BURST = 1;
  private static final int LEAKING = 2;
  private static final int UNCLEAR = 3;
  private static final int UNCALIBRATED = 4;
  private static final int STOPPED = 5;

  /** Doubles that are not negative lie in the order of their bits, so ranges are told by bits too. */
  private static final long BITS_OF_0 = 0L;
  private static final long BITS_OF_1 = 0x3FF0000000000000L;
  private static final long BITS_OF_20 = 0x4034000000000000L;
  private static final long BITS_OF_30 = 0x403E000000000000L;
  private static final long BITS_OF_500 = 0x407F400000000000L;
  private static final long BITS_OF_1000 = 0x408F400000000000L;
  private static final long BITS_OF_1000000 = 0x412E848000000000L;

  private static final int END_OF_TEXT = -1;
  private static final int NO_FAULT = -1;
  private static final int FAULT_AT_0 = -100;

  private final Carousel now;
  private final Carousel[] history;
  private final Carousel snapshot;
  private final Text text;
  private int recorded;
  private boolean kept;

  public LeakCarousel() {
    now = new Carousel();
    history = new Carousel[MOST_STATES];
    for (int i = 0; i < history.length; i++) {
      history[i] = new Carousel();
    }
    snapshot = new Carousel();
    text = new Text();
    recorded = 0;
    kept = false;
  }

  // ---- settings

  public int build(int heads) {
    if (heads < FEWEST_HEADS || heads > MOST_HEADS) {
      return BAD_VALUE;
    }
    remember();
    int parts = now.partCount;
    now.begin(heads);
    return parts;
  }

  public int setPressure(int what, long bits) {
    Pressure pressure = now.pressureAt(what);
    if (pressure == null || bits < pressure.least || bits > pressure.most) {
      return BAD_VALUE;
    }
    if (bits == pressure.bits) {
      return NONE;
    }
    remember();
    pressure.become(bits);
    return 1;
  }

  public int setInterval(int tests) {
    if (tests < 1 || tests > MOST_INTERVAL) {
      return BAD_VALUE;
    }
    if (tests == now.interval) {
      return NONE;
    }
    remember();
    int previous = now.interval;
    now.interval = tests;
    return previous;
  }

  public int equip(int head, int wear, int fixture) {
    Head equipped = now.headAt(head);
    if (equipped == null) {
      return UNKNOWN;
    }
    if (wear < 0 || wear > MOST_WEAR || fixture < ANY_PART || fixture > PIPES_ONLY) {
      return BAD_VALUE;
    }
    if (wear == equipped.wear && fixture == equipped.fixture) {
      return NONE;
    }
    remember();
    int previous = equipped.wear;
    equipped.wear = wear;
    equipped.fixture = fixture;
    return previous;
  }

  public int calibrate(int head, int master) {
    Head calibrated = now.headAt(head);
    if (calibrated == null) {
      return UNKNOWN;
    }
    if (master < 1 || master > MOST_LEAK) {
      return BAD_VALUE;
    }
    if (calibrated.part != NONE) {
      return NOT_POSSIBLE;
    }
    remember();
    int tests = calibrated.testsSince;
    now.calibrateWith(calibrated, master);
    return tests;
  }

  // ---- parts and steps

  public int add(boolean pipe, int leak, int volume) {
    if (leak < 0 || leak > MOST_LEAK || volume < 1 || volume > MOST_VOLUME) {
      return BAD_VALUE;
    }
    if (now.partCount >= MOST_PARTS) {
      return FULL;
    }
    remember();
    return now.addPart(pipe, leak, volume);
  }

  public int run(int steps) {
    if (steps < 1 || steps > MOST_STEPS) {
      return BAD_VALUE;
    }
    return doSteps(steps);
  }

  // ---- texts

  public int type(char character) {
    return text.append(character);
  }

  public int clearText() {
    int length = text.length;
    text.length = 0;
    return length;
  }

  public int readParts() {
    int fault = text.firstFault();
    if (fault != NO_FAULT) {
      return FAULT_AT_0 - fault;
    }
    int parts = text.partsTold();
    if (parts > MOST_PARTS - now.partCount) {
      return FULL;
    }
    remember();
    text.addPartsTo(now, parts);
    return parts;
  }

  public int perform() {
    if (text.reads("step")) {
      return doSteps(1);
    }
    if (text.reads("turn")) {
      return doSteps(now.headCount);
    }
    if (text.reads("stop")) {
      return stopWaiting();
    }
    if (text.reads("clear")) {
      return clearHeads();
    }
    return BAD_VALUE;
  }

  // ---- history

  public int undo() {
    int latest = recorded - 1;
    if (latest < 0 || latest >= history.length) {
      return NONE;
    }
    now.copyOf(history[latest]);
    recorded = latest;
    return recorded;
  }

  public int keep() {
    snapshot.copyOf(now);
    kept = true;
    return now.partCount;
  }

  public int restore() {
    if (!kept) {
      return NONE;
    }
    remember();
    now.copyOf(snapshot);
    return now.partCount;
  }

  // ---- what is told

  public int head(int head, int what) {
    Head told = now.headAt(head);
    if (told == null) {
      return UNKNOWN;
    }
    switch (what) {
      case 0: return told.wear;
      case 1: return told.fixture;
      case 2: return told.testsSince;
      case 3: return told.part;
      case 4: return told.tests;
      case 5: return told.accepted;
      case 6: return told.rejected;
      case 7: return told.retests;
      case 8: return now.stepsUntil(told);
      default: return BAD_VALUE;
    }
  }

  public double gauge(int head, int what) {
    Head told = now.headAt(head);
    if (told == null) {
      return notANumber();
    }
    if (what == 0) {
      return told.gain;
    }
    if (what == 1) {
      return told.factor;
    }
    if (told.part == NONE) {
      return notANumber();
    }
    if (what == 2) {
      return told.filled;
    }
    return what == 3 ? told.pressure : notANumber();
  }

  public int display(int head) {
    Head told = now.headAt(head);
    if (told == null) {
      return UNKNOWN;
    }
    return told.part == NONE ? NONE : bitsOf((float) told.pressure);
  }

  public int part(int part, int what) {
    Part told = now.partAt(part);
    if (told == null) {
      return UNKNOWN;
    }
    switch (what) {
      case 0: return told.pipe ? 1 : 0;
      case 1: return told.leak;
      case 2: return told.volume;
      case 3: return told.state;
      case 4: return told.tests;
      case 5: return told.retests;
      case 6: return told.latestHead;
      case 7: return told.cause;
      case 8: return told.place;
      default: return BAD_VALUE;
    }
  }

  public int fits(int part, int head) {
    Part told = now.partAt(part);
    Head taker = now.headAt(head);
    if (told == null || taker == null) {
      return UNKNOWN;
    }
    return taker.takes(told) ? 1 : 0;
  }

  public double value(int part) {
    Part told = now.partAt(part);
    return told == null || told.tests == 0 ? notANumber() : told.latestValue;
  }

  public double foretold(int part, int head) {
    Part told = now.partAt(part);
    Head tester = now.headAt(head);
    return told == null || tester == null ? notANumber() : now.valueToCome(told, tester);
  }

  public long pressureBits(int what) {
    Pressure pressure = now.pressureAt(what);
    return pressure == null ? BAD_VALUE : pressure.bits;
  }

  public double trace(int head, int step) {
    Head told = now.headAt(head);
    if (told == null) {
      return notANumber();
    }
    Part on = now.partAt(told.part);
    if (on == null || step < 0 || step > told.stepsSince) {
      return notANumber();
    }
    return decayed(told.filled, on.leak, on.volume, step);
  }

  public int count(int what) {
    switch (what) {
      case 0: return now.headCount;
      case 1: return now.steps;
      case 2: return now.partCount;
      case 3: return now.partsIn(WAITING);
      case 4: return now.partsIn(ON_HEAD);
      case 5: return now.partsIn(ACCEPTED);
      case 6: return now.partsIn(REJECTED);
      case 7: return now.testsEnded();
      case 8: return now.testsRepeated();
      case 9: return now.interval;
      case 10: return now.partsRejectedFor(BURST);
      case 11: return now.partsRejectedFor(LEAKING);
      case 12: return now.partsRejectedFor(UNCLEAR);
      case 13: return now.partsRejectedFor(UNCALIBRATED);
      case 14: return now.partsRejectedFor(STOPPED);
      case 15: return recorded;
      case 16: return text.length;
      default: return BAD_VALUE;
    }
  }

  // ---- acts

  /** Every act calls this when nothing can hinder it any more, and before it changes anything. */
  private void remember() {
    if (recorded >= history.length) {
      dropOldest();
    }
    if (recorded >= 0 && recorded < history.length) {
      history[recorded].copyOf(now);
      recorded++;
    }
  }

  /** The object of the oldest state is used again, so that acts make no objects. */
  private void dropOldest() {
    for (int i = 1; i < history.length; i++) {
      Carousel oldest = history[i - 1];
      history[i - 1] = history[i];
      history[i] = oldest;
    }
    recorded = history.length - 1;
  }

  private int doSteps(int steps) {
    remember();
    int ended = 0;
    for (int i = 0; i < steps; i++) {
      if (now.step()) {
        ended++;
      }
    }
    return ended;
  }

  private int stopWaiting() {
    int waiting = now.partsIn(WAITING);
    if (waiting == 0) {
      return NONE;
    }
    remember();
    now.rejectWaiting();
    return waiting;
  }

  private int clearHeads() {
    int onHeads = now.partsIn(ON_HEAD);
    if (onHeads == 0) {
      return NONE;
    }
    remember();
    now.takeFromHeads();
    return onHeads;
  }

  // ---- numbers

  private static double notANumber() {
    return 0.0 / 0.0;
  }

  /** The pressure of a part (or a master leak) behind so many steps away from the station. */
  private static double decayed(double from, int leak, int volume, int steps) {
    double pressure = from;
    for (int i = 0; i < steps; i++) {
      double next = pressure - pressure * leak / (1000.0 * volume);
      pressure = next < 0.0 ? 0.0 : next;
    }
    return pressure;
  }

  /**
   * The double of these bits, which must be those of a number from 0.0 to 1000000.0: its whole
   * digits are then always halved, and no halving loses a digit, however small the number is.
   */
  private static double numberOf(long bits) {
    int exponent = (int) (bits >>> 52);
    long fraction = bits & 0xFFFFFFFFFFFFFL;
    double number = exponent == 0 ? fraction : fraction + 0x10000000000000L;
    int halvings = exponent == 0 ? 1074 : 1075 - exponent;
    for (; halvings >= 32; halvings -= 32) {
      number = number / 4294967296.0;
    }
    for (; halvings > 0; halvings--) {
      number = number / 2.0;
    }
    return number;
  }

  /**
   * The bits of a float from 0.0 to 1000.0, as all pressures are: it is doubled until its 24 digits
   * are whole, or until the exponent is the least one (which means a number with fewer digits).
   */
  private static int bitsOf(float number) {
    double digits = number;
    int exponent = 150;
    while (exponent > 1 && digits < 8388608.0) {
      digits = digits * 2.0;
      exponent--;
    }
    int whole = (int) digits;
    return whole < 8388608 ? whole : (exponent << 23) + (whole - 8388608);
  }

  /** A setting that is a double, with its range. */
  private static final class Pressure {
    final long least;
    final long most;
    long bits;
    double number;

    Pressure(long least, long most, long bits) {
      this.least = least;
      this.most = most;
      this.bits = bits;
      this.number = numberOf(bits);
    }

    void become(long newBits) {
      bits = newBits;
      number = numberOf(newBits);
    }

    void copyOf(Pressure other) {
      bits = other.bits;
      number = other.number;
    }
  }

  private static final class Part {
    final int number;
    boolean pipe;
    int leak;
    int volume;
    int state;
    int place;
    int tests;
    int retests;
    int latestHead;
    double latestValue;
    int cause;

    Part(int number) {
      this.number = number;
      beAbsent();
    }

    void beAbsent() {
      begin(false, 0, 1, NONE);
      state = ABSENT;
    }

    void begin(boolean isPipe, int itsLeak, int itsVolume, int itsPlace) {
      pipe = isPipe;
      leak = itsLeak;
      volume = itsVolume;
      state = WAITING;
      place = itsPlace;
      tests = 0;
      retests = 0;
      latestHead = NONE;
      latestValue = 0.0;
      cause = NONE;
    }

    void rejectFor(int itsCause) {
      state = REJECTED;
      place = NONE;
      cause = itsCause;
    }

    void copyOf(Part other) {
      pipe = other.pipe;
      leak = other.leak;
      volume = other.volume;
      state = other.state;
      place = other.place;
      tests = other.tests;
      retests = other.retests;
      latestHead = other.latestHead;
      latestValue = other.latestValue;
      cause = other.cause;
    }
  }

  private static final class Head {
    final int number;
    double gain;
    double factor;
    int wear;
    int fixture;
    int testsSince;
    int part;
    double filled;
    double pressure;
    int stepsSince;
    int tests;
    int accepted;
    int rejected;
    int retests;

    Head(int number) {
      this.number = number;
      begin();
    }

    void begin() {
      gain = 1.0;
      factor = 1.0;
      wear = 0;
      fixture = ANY_PART;
      testsSince = 0;
      part = NONE;
      filled = 0.0;
      pressure = 0.0;
      stepsSince = 0;
      tests = 0;
      accepted = 0;
      rejected = 0;
      retests = 0;
    }

    boolean takes(Part taken) {
      return fixture == ANY_PART || (fixture == PIPES_ONLY) == taken.pipe;
    }

    void fill(Part filledPart, double fillingPressure) {
      part = filledPart.number;
      filled = fillingPressure;
      pressure = fillingPressure;
      stepsSince = 0;
    }

    void copyOf(Head other) {
      gain = other.gain;
      factor = other.factor;
      wear = other.wear;
      fixture = other.fixture;
      testsSince = other.testsSince;
      part = other.part;
      filled = other.filled;
      pressure = other.pressure;
      stepsSince = other.stepsSince;
      tests = other.tests;
      accepted = other.accepted;
      rejected = other.rejected;
      retests = other.retests;
    }
  }

  /** A state: all that undo and the snapshot bring back. */
  private static final class Carousel {
    final Pressure filling;
    final Pressure lower;
    final Pressure upper;
    final Head[] heads;
    final Part[] parts;
    int interval;
    int headCount;
    int partCount;
    int steps;
    /** The head that is at the station in the next step. */
    int station;

    Carousel() {
      filling = new Pressure(BITS_OF_1, BITS_OF_1000, BITS_OF_500);
      lower = new Pressure(BITS_OF_0, BITS_OF_1000000, BITS_OF_20);
      upper = new Pressure(BITS_OF_0, BITS_OF_1000000, BITS_OF_30);
      interval = INTERVAL_AT_FIRST;
      heads = new Head[MOST_HEADS];
      for (int i = 0; i < heads.length; i++) {
        heads[i] = new Head(i);
      }
      parts = new Part[MOST_PARTS];
      for (int i = 0; i < parts.length; i++) {
        parts[i] = new Part(i);
      }
      headCount = HEADS_AT_FIRST;
      partCount = 0;
      steps = 0;
      station = 0;
    }

    void begin(int newHeadCount) {
      for (Head head : heads) {
        head.begin();
      }
      for (Part part : parts) {
        part.beAbsent();
      }
      headCount = newHeadCount;
      partCount = 0;
      steps = 0;
      station = 0;
    }

    void copyOf(Carousel other) {
      filling.copyOf(other.filling);
      lower.copyOf(other.lower);
      upper.copyOf(other.upper);
      for (int i = 0; i < heads.length && i < other.heads.length; i++) {
        heads[i].copyOf(other.heads[i]);
      }
      for (int i = 0; i < parts.length && i < other.parts.length; i++) {
        parts[i].copyOf(other.parts[i]);
      }
      interval = other.interval;
      headCount = other.headCount;
      partCount = other.partCount;
      steps = other.steps;
      station = other.station;
    }

    /** Null if there is none: so every number is looked at here, before it is an index. */
    Head headAt(int number) {
      boolean known = number >= 0 && number < headCount && number < heads.length;
      return known ? heads[number] : null;
    }

    /** Null if there is none, so also for the part on an empty head. */
    Part partAt(int number) {
      boolean known = number >= 0 && number < partCount && number < parts.length;
      return known ? parts[number] : null;
    }

    Pressure pressureAt(int what) {
      switch (what) {
        case 0: return filling;
        case 1: return lower;
        case 2: return upper;
        default: return null;
      }
    }

    // ---- the row of those that wait

    int addPart(boolean pipe, int leak, int volume) {
      int number = partCount;
      if (number < 0 || number >= parts.length) {
        return FULL;
      }
      parts[number].begin(pipe, leak, volume, partsIn(WAITING));
      partCount = number + 1;
      return number;
    }

    private void putInFront(Part part) {
      for (Part other : parts) {
        if (other.state == WAITING) {
          other.place++;
        }
      }
      part.state = WAITING;
      part.place = 0;
    }

    private void takeFromRow(Part part) {
      for (Part other : parts) {
        if (other.state == WAITING && other.place > part.place) {
          other.place--;
        }
      }
      part.state = ON_HEAD;
      part.place = NONE;
    }

    void rejectWaiting() {
      for (Part part : parts) {
        if (part.state == WAITING) {
          part.rejectFor(STOPPED);
        }
      }
    }

    /** From the highest head to the lowest, as the one put in front last is the first of the row. */
    void takeFromHeads() {
      for (int i = heads.length - 1; i >= 0; i--) {
        Part part = partAt(heads[i].part);
        heads[i].part = NONE;
        if (part != null) {
          putInFront(part);
        }
      }
    }

    // ---- steps

    /** Answers whether a test ended. */
    boolean step() {
      Head here = headAt(station);
      if (here == null) {
        return false;
      }
      boolean ended = endTest(here);
      load(here);
      leakAwayFrom(here);
      steps++;
      station = station + 1 < headCount ? station + 1 : 0;
      return ended;
    }

    int stepsUntil(Head head) {
      int ahead = head.number - station;
      return ahead < 0 ? ahead + headCount : ahead;
    }

    private boolean endTest(Head head) {
      Part part = partAt(head.part);
      if (part == null) {
        return false;
      }
      part.latestValue = valueOf(head.filled - head.pressure, part, head);
      part.latestHead = head.number;
      part.tests++;
      head.tests++;
      head.testsSince++;
      head.part = NONE;
      judge(part, head);
      head.gain = head.gain * (1.0 - head.wear / 1000000.0);
      return true;
    }

    private void judge(Part part, Head head) {
      int cause = causeAgainst(part, head);
      boolean mayBeRetested = cause == UNCLEAR || cause == UNCALIBRATED;
      if (cause == NONE) {
        part.state = ACCEPTED;
        head.accepted++;
      } else if (mayBeRetested && part.retests < MOST_RETESTS) {
        part.retests++;
        head.retests++;
        putInFront(part);
      } else {
        part.rejectFor(cause);
        head.rejected++;
      }
    }

    private int causeAgainst(Part part, Head head) {
      if (head.pressure < head.filled / 2.0) {
        return BURST;
      }
      if (head.testsSince > interval) {
        return UNCALIBRATED;
      }
      if (part.latestValue <= lower.number) {
        return NONE;
      }
      return part.latestValue > upper.number ? LEAKING : UNCLEAR;
    }

    private void load(Head head) {
      Part first = null;
      for (Part part : parts) {
        boolean mayCome = part.state == WAITING && part.latestHead != head.number && head.takes(part);
        if (mayCome && (first == null || part.place < first.place)) {
          first = part;
        }
      }
      if (first != null) {
        takeFromRow(first);
        head.fill(first, filling.number);
      }
    }

    private void leakAwayFrom(Head here) {
      for (Head head : heads) {
        Part part = partAt(head.part);
        if (head != here && part != null) {
          head.pressure = decayed(head.pressure, part.leak, part.volume, 1);
          head.stepsSince++;
        }
      }
    }

    private double valueOf(double drop, Part part, Head head) {
      return drop * part.volume / (headCount - 1) * head.gain * head.factor;
    }

    double valueToCome(Part part, Head head) {
      double pressure = decayed(filling.number, part.leak, part.volume, headCount - 1);
      return valueOf(filling.number - pressure, part, head);
    }

    void calibrateWith(Head head, int master) {
      double pressure = decayed(filling.number, master, MASTER_VOLUME, headCount - 1);
      double expected = (filling.number - pressure) * 100.0 / (headCount - 1);
      head.testsSince = 0;
      // Far beyond the promised 512 calls a gain could wear away, and the factor not be a number.
      if (head.gain > 1.0e-300) {
        head.factor = expected / (expected * head.gain);
      }
    }

    // ---- counts

    int partsIn(int state) {
      int found = 0;
      for (Part part : parts) {
        if (part.state == state) {
          found++;
        }
      }
      return found;
    }

    int partsRejectedFor(int cause) {
      int found = 0;
      for (Part part : parts) {
        if (part.cause == cause) {
          found++;
        }
      }
      return found;
    }

    int testsEnded() {
      int tests = 0;
      for (Head head : heads) {
        tests += head.tests;
      }
      return tests;
    }

    int testsRepeated() {
      int retests = 0;
      for (Head head : heads) {
        retests += head.retests;
      }
      return retests;
    }
  }

  /** What is typed; not a String, as any character can be typed. */
  private static final class Text {
    final char[] signs;
    int length;

    Text() {
      signs = new char[MOST_SIGNS];
      length = 0;
    }

    int append(char sign) {
      if (length < 0 || length >= signs.length) {
        return FULL;
      }
      signs[length] = sign;
      length++;
      return length;
    }

    boolean reads(String word) {
      if (length != word.length()) {
        return false;
      }
      for (int i = 0; i < word.length(); i++) {
        if (signAt(i) != word.charAt(i)) {
          return false;
        }
      }
      return true;
    }

    private int signAt(int at) {
      return at >= 0 && at < length && at < signs.length ? signs[at] : END_OF_TEXT;
    }

    private boolean isDigitAt(int at) {
      return signAt(at) >= '0' && signAt(at) <= '9';
    }

    /** The end of the text is a fault at its length, as a sign that is not allowed would be. */
    int firstFault() {
      int at = 0;
      for (int parts = 0; parts < MOST_SIGNS; parts++) {
        if (signAt(at) != 'v' && signAt(at) != 'p') {
          return at;
        }
        int leak = at + 1;
        int slash = behindLeak(leak);
        if (slash == leak || signAt(slash) != '/') {
          return slash;
        }
        int volume = slash + 1;
        int end = behindVolume(volume);
        if (end == volume) {
          return end;
        }
        if (signAt(end) == END_OF_TEXT) {
          return NO_FAULT;
        }
        if (signAt(end) != ';') {
          return end;
        }
        at = end + 1;
      }
      return at;
    }

    /** The place behind the leak that begins there; the same place if none can begin there. */
    private int behindLeak(int from) {
      return signAt(from) == '0' ? from + 1 : behindDigits(from, LEAK_DIGITS);
    }

    private int behindVolume(int from) {
      return signAt(from) == '0' ? from : behindDigits(from, VOLUME_DIGITS);
    }

    private int behindDigits(int from, int most) {
      int at = from;
      while (at < from + most && isDigitAt(at)) {
        at++;
      }
      return at;
    }

    /** Only of a text without a fault, where a semicolon is always between two parts. */
    int partsTold() {
      int parts = 1;
      for (int i = 0; i < length; i++) {
        if (signAt(i) == ';') {
          parts++;
        }
      }
      return parts;
    }

    /** Only of a text without a fault. */
    void addPartsTo(Carousel carousel, int parts) {
      int at = 0;
      for (int i = 0; i < parts; i++) {
        int leak = at + 1;
        int slash = behindLeak(leak);
        int end = behindVolume(slash + 1);
        carousel.addPart(signAt(at) == 'p', wholeIn(leak, slash), wholeIn(slash + 1, end));
        at = end + 1;
      }
    }

    private int wholeIn(int from, int behind) {
      int whole = 0;
      for (int i = from; i < behind; i++) {
        whole = whole * 10 + (signAt(i) - '0');
      }
      return whole;
    }
  }
}
