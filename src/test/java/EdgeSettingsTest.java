/** The edges that promises 1 to 6, HEADS, SETTINGS and CALIBRATION name, each sentence by itself. */
public final class EdgeSettingsTest {
  /** Far outside of every small range, or inside it when only the low bits are looked at. */
  private static final int[] FAR = {Integer.MIN_VALUE, Integer.MIN_VALUE + 3, -3, 256 + 3, 65536 + 3,
    Integer.MAX_VALUE};
  private static final long MINUS_ZERO = Long.MIN_VALUE;
  private static final long INFINITE = 0x7FF0000000000000L;

  public static void main(String[] args) {
    promise1FourHeadsWithoutParts();
    promise1HeadsAtFirst();
    promise1ObjectsShareNothing();
    promise2FewestHeads();
    promise2MostHeads();
    promise2HeadsFarOutside();
    promise2NumberOfPartsThereWere();
    promise2AsAtFirst();
    promise2SettingsStay();
    promise2SameNumberIsAnAct();
    promise2MakesRoomAgain();
    promise2HeadsBeyondTheNewNumber();
    promise3FillingPressureFrom1();
    promise3FillingPressureTo1000();
    promise3LimitsFrom0();
    promise3LimitsTo1000000();
    promise3MinusZeroIsInNoRange();
    promise3NoNumber();
    promise3EndsOfLong();
    promise3What();
    promise3NoneIfItIsSo();
    promise3AtFirst();
    promise3OneOfThree();
    promise3UpperBelowLower();
    promise4IntervalFrom1();
    promise4IntervalTo99();
    promise4FarOutside();
    promise4NoneIfItIsSo();
    promise5UnknownHead();
    promise5WearFrom0To1000();
    promise5FixtureFrom0To2();
    promise5TwoErrors();
    promise5NoneOnlyIfBothAreSo();
    promise5PreviousWear();
    promise5PartStays();
    promise6UnknownHead();
    promise6MasterFrom1To99999();
    promise6TwoErrors();
    promise6NotEmpty();
    promise6EmptyAgain();
    promise6TestsSince();
    promise6FewestAndMostHeads();
    promise6FactorOfAWornGain();
    Check.finish();
  }

  private static long bitsOf(double number) {
    return Double.doubleToRawLongBits(number);
  }

  // ---- promise 1: "Creates a carousel of four heads without parts."

  private static void promise1FourHeadsWithoutParts() {
    LeakCarousel x = new LeakCarousel();
    Check.due("count(0)", x.count(0), 4);
    Check.due("head(3, 0)", x.head(3, 0), 0);
    Check.due("head(4, 0)", x.head(4, 0), LeakCarousel.UNKNOWN);
    Check.due("count(2)", x.count(2), 0);
    Check.due("part(0, 0)", x.part(0, 0), LeakCarousel.UNKNOWN);
    Check.due("count(1): the steps are counted from 0", x.count(1), 0);
    Check.due("the text is empty at first", x.clearText(), 0);
    Check.due("the history is empty at first", x.undo(), LeakCarousel.NONE);
    Check.due("the snapshot is empty at first", x.restore(), LeakCarousel.NONE);
    Check.due("no part waits at first", Runs.perform(x, "stop"), LeakCarousel.NONE);
    Check.due("the heads are empty at first", Runs.perform(x, "clear"), LeakCarousel.NONE);
  }

  private static void promise1HeadsAtFirst() {
    dueHeadsAtFirst(new LeakCarousel(), 4);
  }

  /** HEADS: the gain and the factor 1.0, the wear, the fixture and the tests 0, empty. */
  private static void dueHeadsAtFirst(LeakCarousel x, int heads) {
    for (int head = 0; head < heads; head++) {
      Check.dueNumber("gauge(" + head + ", 0)", x.gauge(head, 0), 1.0);
      Check.dueNumber("gauge(" + head + ", 1)", x.gauge(head, 1), 1.0);
      Check.due("head(" + head + ", 0)", x.head(head, 0), 0);
      Check.due("head(" + head + ", 1)", x.head(head, 1), 0);
      Check.due("head(" + head + ", 2)", x.head(head, 2), 0);
      Check.due("head(" + head + ", 3)", x.head(head, 3), LeakCarousel.NONE);
      for (int what = 4; what <= 7; what++) {
        Check.due("head(" + head + ", " + what + ")", x.head(head, what), 0);
      }
      Check.due("head(" + head + ", 8)", x.head(head, 8), head);
    }
  }

  private static void promise1ObjectsShareNothing() {
    String before = Told.all(Told::fresh);
    LeakCarousel one = Told.busy();
    LeakCarousel other = new LeakCarousel();
    one.run(40);
    Check.dueWords("an object behind the work of another", Told.all(Told::fresh), before);
    Check.due("count(1) of the one", one.count(1), 47);
    Check.due("count(1) of the other", other.count(1), 0);
  }

  // ---- promise 2: build, "2 to 8"

  private static void promise2FewestHeads() {
    Told.dueAct("build(2)", x -> x.build(2), 0, 5);
    Told.dueRefused("build(1)", x -> x.build(1), LeakCarousel.BAD_VALUE);
    Told.dueRefused("build(0)", x -> x.build(0), LeakCarousel.BAD_VALUE);
    LeakCarousel x = Told.withHeads(2);
    Check.due("count(0)", x.count(0), 2);
    Check.due("head(1, 8)", x.head(1, 8), 1);
    Check.due("head(2, 8)", x.head(2, 8), LeakCarousel.UNKNOWN);
  }

  private static void promise2MostHeads() {
    Told.dueAct("build(8)", x -> x.build(8), 0, 5);
    Told.dueRefused("build(9)", x -> x.build(9), LeakCarousel.BAD_VALUE);
    LeakCarousel x = Told.withHeads(8);
    Check.due("count(0)", x.count(0), 8);
    Check.due("head(7, 8)", x.head(7, 8), 7);
    Check.due("head(8, 8)", x.head(8, 8), LeakCarousel.UNKNOWN);
  }

  private static void promise2HeadsFarOutside() {
    for (int heads : FAR) {
      Told.dueRefused("build(" + heads + ")", x -> x.build(heads), LeakCarousel.BAD_VALUE);
    }
  }

  /** "Returns the number of parts that there were" */
  private static void promise2NumberOfPartsThereWere() {
    int[] many = {0, 1, 59, 60};
    for (int parts : many) {
      Told.dueAct("build(3) of " + parts + " parts", () -> Told.withParts(parts), x -> x.build(3), parts);
    }
    LeakCarousel x = Told.withParts(60);
    x.build(3);
    Check.due("build(3) once more", x.build(3), 0);
  }

  /** "with so many heads as at first, the steps at 0, without parts, all that was counted at 0" */
  private static void promise2AsAtFirst() {
    Told.dueAct("build(2) of a worn carousel", Told::worn, x -> x.build(2), 32);
    for (int heads = 2; heads <= 8; heads++) {
      int many = heads;
      Told.Made built = () -> Told.withHeads(many);
      Told.Made rebuilt = () -> {
        LeakCarousel x = Told.worn();
        x.build(many);
        return x;
      };
      Check.dueWords("build(" + heads + ") of a worn carousel", Told.state(rebuilt), Told.state(built));
      dueHeadsAtFirst(rebuilt.make(), heads);
      Told.Made later = () -> {
        LeakCarousel x = rebuilt.make();
        Runs.read(x, "v50/100;p1/1;v600/1;p55/100");
        x.run(33);
        return x;
      };
      Told.Made atFirst = () -> {
        LeakCarousel x = built.make();
        Runs.read(x, "v50/100;p1/1;v600/1;p55/100");
        x.run(33);
        return x;
      };
      Check.dueWords("what follows build(" + heads + ")", Told.state(later), Told.state(atFirst));
    }
  }

  /** "the settings stay": at both ends of their ranges. */
  private static void promise2SettingsStay() {
    double[][] settings = {{1.0, 0.0, 0.0}, {1000.0, 1000000.0, 1000000.0}};
    int[] intervals = {1, 99};
    for (int i = 0; i < settings.length; i++) {
      LeakCarousel x = new LeakCarousel();
      for (int what = 0; what < 3; what++) {
        Runs.setPressure(x, what, settings[i][what]);
      }
      x.setInterval(intervals[i]);
      x.add(false, 1, 1);
      x.build(8);
      for (int what = 0; what < 3; what++) {
        Check.due("pressureBits(" + what + ")", x.pressureBits(what), bitsOf(settings[i][what]));
      }
      Check.due("count(9)", x.count(9), intervals[i]);
      x.add(false, 0, 1);
      x.run(1);
      Check.dueNumber("filled behind build", x.gauge(0, 2), settings[i][0]);
    }
  }

  private static void promise2SameNumberIsAnAct() {
    Told.dueAct("build(4) of four heads", Told::fresh, x -> x.build(4), 0);
    Told.dueAct("build(3) of three heads", Told::busy, x -> x.build(3), 5);
  }

  private static void promise2MakesRoomAgain() {
    LeakCarousel x = Told.withParts(60);
    Check.due("add to 60 parts", x.add(false, 1, 1), LeakCarousel.FULL);
    Check.due("build(2)", x.build(2), 60);
    for (int i = 0; i < 60; i++) {
      Check.due("add behind build", x.add(false, 1, 1), i);
    }
    Check.due("add to 60 parts", x.add(false, 1, 1), LeakCarousel.FULL);
  }

  /** Heads that a smaller carousel lacks are none of it, and are as at first when they come back. */
  private static void promise2HeadsBeyondTheNewNumber() {
    LeakCarousel x = Told.worn();
    x.build(2);
    Check.due("head(2, 0)", x.head(2, 0), LeakCarousel.UNKNOWN);
    Check.due("head(7, 0)", x.head(7, 0), LeakCarousel.UNKNOWN);
    Check.due("equip(7, 1, 1)", x.equip(7, 1, 1), LeakCarousel.UNKNOWN);
    Check.due("calibrate(7, 1)", x.calibrate(7, 1), LeakCarousel.UNKNOWN);
    Check.dueNaN("gauge(7, 0)", x.gauge(7, 0));
    Check.due("count(4)", x.count(4), 0);
    Check.due("count(7)", x.count(7), 0);
    x.build(8);
    dueHeadsAtFirst(x, 8);
  }

  // ---- promise 3: setPressure

  private static void duePressure(int what, double number) {
    String name = "setPressure(" + what + ", " + number + ")";
    Told.dueAct(name, x -> x.setPressure(what, bitsOf(number)), 1, 1);
    LeakCarousel x = new LeakCarousel();
    x.setPressure(what, bitsOf(number));
    Check.due("pressureBits behind " + name, x.pressureBits(what), bitsOf(number));
  }

  private static void dueBadBits(int what, long bits) {
    String name = "setPressure(" + what + ", " + bits + "L)";
    Told.dueRefused(name, x -> x.setPressure(what, bits), LeakCarousel.BAD_VALUE);
  }

  /** "The filling pressure is a double from 1.0 ..." */
  private static void promise3FillingPressureFrom1() {
    duePressure(0, 1.0);
    duePressure(0, Math.nextUp(1.0));
    dueBadBits(0, bitsOf(Math.nextDown(1.0)));
    dueBadBits(0, bitsOf(0.5));
    dueBadBits(0, 0L);
    dueBadBits(0, 1L);
    LeakCarousel x = new LeakCarousel();
    Runs.setPressure(x, 0, 1.0);
    x.add(false, 100, 1);
    x.run(2);
    Check.dueNumber("gauge(0, 2)", x.gauge(0, 2), 1.0);
    Check.dueNumber("gauge(0, 3)", x.gauge(0, 3), 1.0 - 1.0 * 100 / 1000.0);
  }

  /** "... to 1000.0" */
  private static void promise3FillingPressureTo1000() {
    duePressure(0, 1000.0);
    duePressure(0, Math.nextDown(1000.0));
    dueBadBits(0, bitsOf(Math.nextUp(1000.0)));
    dueBadBits(0, bitsOf(1000000.0));
    dueBadBits(0, bitsOf(Double.MAX_VALUE));
    LeakCarousel x = new LeakCarousel();
    Runs.setPressure(x, 0, 1000.0);
    x.add(false, 100, 1);
    x.run(2);
    Check.dueNumber("gauge(0, 2)", x.gauge(0, 2), 1000.0);
    Check.dueNumber("gauge(0, 3)", x.gauge(0, 3), 1000.0 - 1000.0 * 100 / 1000.0);
  }

  /** "The lower limit is a double from 0.0 ..., and the upper limit one from 0.0" */
  private static void promise3LimitsFrom0() {
    for (int what = 1; what <= 2; what++) {
      duePressure(what, 0.0);
      duePressure(what, Double.MIN_VALUE);
      duePressure(what, Math.nextDown(Double.MIN_NORMAL));
      duePressure(what, Double.MIN_NORMAL);
      dueBadBits(what, bitsOf(-Double.MIN_VALUE));
      dueBadBits(what, bitsOf(-1.0));
    }
    Check.due("0.0 is at most the limit 0.0", causeOf(0, 1, 0.0, 0.0), LeakCarousel.NONE);
    Check.due("0.0 is at most the least double", causeOf(0, 1, Double.MIN_VALUE, 0.0), LeakCarousel.NONE);
    Check.due("0.05 is more than 0.0", causeOf(1, 10, 0.0, 0.0), 2);
  }

  /** "... to 1000000.0" */
  private static void promise3LimitsTo1000000() {
    for (int what = 1; what <= 2; what++) {
      duePressure(what, 1000000.0);
      duePressure(what, Math.nextDown(1000000.0));
      dueBadBits(what, bitsOf(Math.nextUp(1000000.0)));
      dueBadBits(what, bitsOf(Double.MAX_VALUE));
    }
    Check.due("the largest lower limit", causeOf(499, 1, 1000000.0, 0.0), LeakCarousel.NONE);
    LeakCarousel x = new LeakCarousel();
    Runs.setPressure(x, 1, 0.0);
    Runs.setPressure(x, 2, 1000000.0);
    x.add(false, 99, 1);
    x.run(5);
    Check.due("the largest upper limit", x.part(0, 5), 1);
  }

  /** The cause of a first test on two heads, filled with 500.0. */
  private static int causeOf(int leak, int volume, double lower, double upper) {
    LeakCarousel x = Told.withHeads(2);
    Runs.setPressure(x, 1, lower);
    Runs.setPressure(x, 2, upper);
    x.add(false, leak, volume);
    x.run(3);
    return x.part(0, 7);
  }

  /** "the bits of -0.0 are in no range" */
  private static void promise3MinusZeroIsInNoRange() {
    for (int what = 0; what <= 2; what++) {
      dueBadBits(what, MINUS_ZERO);
    }
    for (int what = 1; what <= 2; what++) {
      int limit = what;
      Told.Made atZero = () -> {
        LeakCarousel x = new LeakCarousel();
        x.setPressure(limit, 0L);
        return x;
      };
      Told.dueRefused("-0.0 at 0.0", atZero, x -> x.setPressure(limit, MINUS_ZERO), LeakCarousel.BAD_VALUE);
    }
  }

  /** "this is no number": the first and the last bits of those that are none, of both signs. */
  private static void promise3NoNumber() {
    long[] none = {INFINITE + 1, 0x7FF7FFFFFFFFFFFFL, 0x7FF8000000000000L, 0x7FFFFFFFFFFFFFFFL,
      0xFFF0000000000001L, 0xFFF7FFFFFFFFFFFFL, 0xFFF8000000000000L, 0xFFFFFFFFFFFFFFFFL};
    for (int what = 0; what <= 2; what++) {
      for (long bits : none) {
        dueBadBits(what, bits);
      }
      dueBadBits(what, INFINITE);
      dueBadBits(what, INFINITE - 1);
      dueBadBits(what, MINUS_ZERO | INFINITE);
    }
  }

  private static void promise3EndsOfLong() {
    for (int what = 0; what <= 2; what++) {
      dueBadBits(what, Long.MIN_VALUE);
      dueBadBits(what, Long.MIN_VALUE + 1);
      dueBadBits(what, Long.MAX_VALUE);
      dueBadBits(what, Long.MAX_VALUE - 1);
      // the same number with the sign turned
      dueBadBits(what, bitsOf(-500.0));
      dueBadBits(what, bitsOf(-20.0));
    }
  }

  /** "what: 0 the filling pressure, 1 the lower limit, 2 the upper limit"; BAD_VALUE is ahead of NONE. */
  private static void promise3What() {
    dueBadBits(-1, bitsOf(500.0));
    dueBadBits(3, bitsOf(30.0));
    dueBadBits(3, bitsOf(25.0));
    int[] far = {Integer.MIN_VALUE, Integer.MIN_VALUE + 1, -2, 256, 65537, Integer.MAX_VALUE};
    for (int what : far) {
      dueBadBits(what, bitsOf(500.0));
      dueBadBits(what, bitsOf(20.0));
      dueBadBits(what, MINUS_ZERO);
    }
  }

  /** "NONE if it is so already": at first, and behind a change to either end. */
  private static void promise3NoneIfItIsSo() {
    double[] atFirst = {500.0, 20.0, 30.0};
    double[] least = {1.0, 0.0, 0.0};
    double[] most = {1000.0, 1000000.0, 1000000.0};
    for (int i = 0; i < 3; i++) {
      int what = i;
      dueSoAlready(Told::fresh, what, atFirst[i]);
      dueSoAlready(Told.behind(Told::busy, x -> Runs.setPressure(x, what, least[what])), what, least[i]);
      dueSoAlready(Told.behind(Told::busy, x -> Runs.setPressure(x, what, most[what])), what, most[i]);
    }
  }

  private static void dueSoAlready(Told.Made made, int what, double number) {
    String name = "setPressure(" + what + ", " + number + ") once more";
    Told.dueRefused(name, made, x -> x.setPressure(what, bitsOf(number)), LeakCarousel.NONE);
    double next = number > 1.0 ? Math.nextDown(number) : Math.nextUp(number);
    Told.dueAct("a number beside " + number, made, x -> x.setPressure(what, bitsOf(next)), 1);
  }

  /** "at first 500.0 ... at first 20.0 ... at first 30.0 ... at first 20" */
  private static void promise3AtFirst() {
    LeakCarousel x = new LeakCarousel();
    Check.due("pressureBits(0)", x.pressureBits(0), 0x407F400000000000L);
    Check.due("pressureBits(1)", x.pressureBits(1), 0x4034000000000000L);
    Check.due("pressureBits(2)", x.pressureBits(2), 0x403E000000000000L);
    Check.due("count(9)", x.count(9), 20);
    Check.due("20.0 is accepted", testedAtFirst(40).part(0, 7), LeakCarousel.NONE);
    Check.due("20.5 is retested", testedAtFirst(41).part(0, 5), 1);
    Check.due("30.0 is retested", testedAtFirst(60).part(0, 5), 1);
    Check.due("30.5 is rejected", testedAtFirst(61).part(0, 7), 2);
  }

  /** On two heads the value of such a part is leak / 2. */
  private static LeakCarousel testedAtFirst(int leak) {
    LeakCarousel x = Told.withHeads(2);
    x.add(false, leak, 1);
    x.run(3);
    return x;
  }

  private static void promise3OneOfThree() {
    for (int what = 0; what < 3; what++) {
      LeakCarousel x = new LeakCarousel();
      Runs.setPressure(x, what, 77.0);
      double[] due = {500.0, 20.0, 30.0};
      due[what] = 77.0;
      for (int told = 0; told < 3; told++) {
        Check.due("pressureBits(" + told + ")", x.pressureBits(told), bitsOf(due[told]));
      }
    }
  }

  /** "it can be below the lower one" */
  private static void promise3UpperBelowLower() {
    Told.dueAct("the upper limit 0.0", x -> x.setPressure(2, 0L), 1, 1);
    Told.dueAct("the lower limit 1000000.0", x -> Runs.setPressure(x, 1, 1000000.0), 1, 1);
    Check.due("the lower limit is looked at first", causeOf(60, 1, 30.0, 20.0), LeakCarousel.NONE);
    Check.due("more than both", causeOf(61, 1, 30.0, 20.0), 2);
    Check.due("more than both", causeOf(61, 1, 30.0, 0.0), 2);
  }

  // ---- promise 4: setInterval, "1 to 99"

  private static void promise4IntervalFrom1() {
    Told.dueAct("setInterval(1)", x -> x.setInterval(1), 20, 7);
    Told.dueRefused("setInterval(0)", x -> x.setInterval(0), LeakCarousel.BAD_VALUE);
    Told.dueRefused("setInterval(-1)", x -> x.setInterval(-1), LeakCarousel.BAD_VALUE);
  }

  private static void promise4IntervalTo99() {
    Told.dueAct("setInterval(99)", x -> x.setInterval(99), 20, 7);
    Told.dueRefused("setInterval(100)", x -> x.setInterval(100), LeakCarousel.BAD_VALUE);
    LeakCarousel x = new LeakCarousel();
    x.setInterval(99);
    Check.due("count(9)", x.count(9), 99);
    Check.due("the previous one", x.setInterval(1), 99);
    Check.due("count(9)", x.count(9), 1);
    Check.due("the previous one", x.setInterval(99), 1);
  }

  private static void promise4FarOutside() {
    for (int tests : FAR) {
      Told.dueRefused("setInterval(" + tests + ")", x -> x.setInterval(tests), LeakCarousel.BAD_VALUE);
    }
  }

  private static void promise4NoneIfItIsSo() {
    Told.dueRefused("setInterval(20)", Told::fresh, x -> x.setInterval(20), LeakCarousel.NONE);
    Told.dueRefused("setInterval(7)", Told::busy, x -> x.setInterval(7), LeakCarousel.NONE);
    Told.Made most = Told.behind(Told::busy, x -> x.setInterval(99));
    Told.dueRefused("setInterval(99)", most, x -> x.setInterval(99), LeakCarousel.NONE);
    Told.Made least = Told.behind(Told::fresh, x -> x.setInterval(1));
    Told.dueRefused("setInterval(1)", least, x -> x.setInterval(1), LeakCarousel.NONE);
  }

  // ---- promise 5: equip

  private static void promise5UnknownHead() {
    for (int heads = 2; heads <= 8; heads++) {
      int many = heads;
      Told.Made made = () -> Told.withHeads(many);
      Told.dueAct("equip of the last head", made, x -> x.equip(many - 1, 5, 1), 0);
      Told.dueRefused("equip behind the last head", made, x -> x.equip(many, 5, 1), LeakCarousel.UNKNOWN);
    }
    Told.dueAct("equip of the head 0", Told::busy, x -> x.equip(0, 5, 1), 500);
    Told.dueRefused("equip(-1, 5, 1)", x -> x.equip(-1, 5, 1), LeakCarousel.UNKNOWN);
    for (int head : FAR) {
      Told.dueRefused("equip(" + head + ", 5, 1)", x -> x.equip(head, 5, 1), LeakCarousel.UNKNOWN);
    }
  }

  private static void promise5WearFrom0To1000() {
    Told.dueAct("equip(1, 1000, 0)", x -> x.equip(1, 1000, 0), 0, 0);
    Told.dueAct("equip(1, 999, 0)", x -> x.equip(1, 999, 0), 0, 0);
    Told.dueAct("equip(0, 0, 0)", Told::busy, x -> x.equip(0, 0, 0), 500);
    Told.dueRefused("equip(1, 1001, 0)", x -> x.equip(1, 1001, 0), LeakCarousel.BAD_VALUE);
    Told.dueRefused("equip(1, -1, 0)", x -> x.equip(1, -1, 0), LeakCarousel.BAD_VALUE);
    int[] far = {Integer.MIN_VALUE, -1000, 65536, 65536 + 500, Integer.MAX_VALUE};
    for (int wear : far) {
      Told.dueRefused("equip(1, " + wear + ", 1)", x -> x.equip(1, wear, 1), LeakCarousel.BAD_VALUE);
    }
    LeakCarousel x = Told.withHeads(2);
    x.equip(0, 1000, 0);
    x.add(false, 0, 1);
    x.run(3);
    Check.dueNumber("the gain behind a test", x.gauge(0, 0), 0.999);
  }

  private static void promise5FixtureFrom0To2() {
    for (int fixture = 1; fixture <= 2; fixture++) {
      int kind = fixture;
      Told.dueAct("equip(1, 0, " + fixture + ")", x -> x.equip(1, 0, kind), 0, 0);
    }
    Told.dueAct("equip(2, 7, 0)", Told::busy, x -> x.equip(2, 7, 0), 7);
    Told.dueRefused("equip(1, 0, -1)", x -> x.equip(1, 0, -1), LeakCarousel.BAD_VALUE);
    Told.dueRefused("equip(1, 0, 3)", x -> x.equip(1, 0, 3), LeakCarousel.BAD_VALUE);
    int[] far = {Integer.MIN_VALUE, 256, 65537, Integer.MAX_VALUE};
    for (int fixture : far) {
      Told.dueRefused("equip(1, 5, " + fixture + ")", x -> x.equip(1, 5, fixture), LeakCarousel.BAD_VALUE);
    }
  }

  /** "UNKNOWN; BAD_VALUE; NONE": the first of two that apply. */
  private static void promise5TwoErrors() {
    Told.dueRefused("equip(8, 1001, 0)", x -> x.equip(8, 1001, 0), LeakCarousel.UNKNOWN);
    Told.dueRefused("equip(8, 0, 3)", x -> x.equip(8, 0, 3), LeakCarousel.UNKNOWN);
    Told.dueRefused("equip(-1, -1, -1)", x -> x.equip(-1, -1, -1), LeakCarousel.UNKNOWN);
    Told.dueRefused("equip(8, 0, 0)", x -> x.equip(8, 0, 0), LeakCarousel.UNKNOWN);
    Told.dueRefused("equip(1, 0, 3)", x -> x.equip(1, 0, 3), LeakCarousel.BAD_VALUE);
    Told.dueRefused("equip(1, 1001, 3)", x -> x.equip(1, 1001, 3), LeakCarousel.BAD_VALUE);
  }

  /** "NONE if both are so already" */
  private static void promise5NoneOnlyIfBothAreSo() {
    Told.dueRefused("equip(1, 0, 0)", x -> x.equip(1, 0, 0), LeakCarousel.NONE);
    Told.dueRefused("equip(0, 500, 1)", Told::busy, x -> x.equip(0, 500, 1), LeakCarousel.NONE);
    Told.dueRefused("equip(2, 7, 2)", Told::busy, x -> x.equip(2, 7, 2), LeakCarousel.NONE);
    Told.dueAct("only the fixture is new", Told::busy, x -> x.equip(0, 500, 0), 500);
    Told.dueAct("only the wear is new", Told::busy, x -> x.equip(0, 499, 1), 500);
    Told.Made most = Told.behind(Told::fresh, x -> x.equip(3, 1000, 2));
    Told.dueRefused("equip(3, 1000, 2)", most, x -> x.equip(3, 1000, 2), LeakCarousel.NONE);
  }

  private static void promise5PreviousWear() {
    LeakCarousel x = new LeakCarousel();
    Check.due("equip(3, 1000, 0)", x.equip(3, 1000, 0), 0);
    Check.due("equip(3, 0, 0)", x.equip(3, 0, 0), 1000);
    Check.due("equip(3, 1, 0)", x.equip(3, 1, 0), 0);
    Check.due("equip(3, 1, 2)", x.equip(3, 1, 2), 1);
    for (int head = 0; head < 3; head++) {
      Check.due("the other heads", x.head(head, 0), 0);
      Check.due("the other heads", x.head(head, 1), 0);
    }
  }

  /** "a part that is on it stays there": also one that the new fixture would not take. */
  private static void promise5PartStays() {
    Told.dueAct("equip under a part", Told::busy, x -> x.equip(0, 500, 2), 500);
    LeakCarousel x = Told.busy();
    double pressure = x.gauge(1, 3);
    x.equip(1, 1000, 2);
    Check.due("head(1, 3)", x.head(1, 3), 0);
    Check.due("fits(0, 1)", x.fits(0, 1), 0);
    Check.dueNumber("gauge(1, 3)", x.gauge(1, 3), pressure);
    Check.dueNumber("gauge(1, 0)", x.gauge(1, 0), 1.0);
    Check.due("its test ends", x.run(1), 1);
    Check.due("part(0, 6)", x.part(0, 6), 1);
    Check.dueNumber("the new wear counts", x.gauge(1, 0), 1.0 * (1.0 - 1000 / 1000000.0));
  }

  // ---- promise 6: calibrate

  private static void promise6UnknownHead() {
    for (int heads = 2; heads <= 8; heads++) {
      int many = heads;
      Told.Made made = () -> Told.withHeads(many);
      Told.dueAct("calibrate of the last head", made, x -> x.calibrate(many - 1, 5), 0);
      Told.dueRefused("calibrate behind the last head", made, x -> x.calibrate(many, 5), LeakCarousel.UNKNOWN);
    }
    Told.dueAct("calibrate(0, 5)", Told::fresh, x -> x.calibrate(0, 5), 0);
    Told.dueRefused("calibrate(-1, 5)", x -> x.calibrate(-1, 5), LeakCarousel.UNKNOWN);
    for (int head : FAR) {
      Told.dueRefused("calibrate(" + head + ", 5)", x -> x.calibrate(head, 5), LeakCarousel.UNKNOWN);
    }
  }

  private static void promise6MasterFrom1To99999() {
    Told.dueAct("calibrate(2, 1)", x -> x.calibrate(2, 1), 0, 0);
    Told.dueAct("calibrate(2, 99999)", x -> x.calibrate(2, 99999), 0, 0);
    Told.dueRefused("calibrate(2, 0)", x -> x.calibrate(2, 0), LeakCarousel.BAD_VALUE);
    Told.dueRefused("calibrate(2, 100000)", x -> x.calibrate(2, 100000), LeakCarousel.BAD_VALUE);
    int[] far = {Integer.MIN_VALUE, Integer.MIN_VALUE + 1, -1, 131072 + 5, Integer.MAX_VALUE};
    for (int master : far) {
      Told.dueRefused("calibrate(2, " + master + ")", x -> x.calibrate(2, master), LeakCarousel.BAD_VALUE);
    }
  }

  /** "UNKNOWN; BAD_VALUE; NOT_POSSIBLE": the first of two that apply. */
  private static void promise6TwoErrors() {
    Told.dueRefused("calibrate(8, 0)", x -> x.calibrate(8, 0), LeakCarousel.UNKNOWN);
    Told.dueRefused("calibrate(-1, 100000)", x -> x.calibrate(-1, 100000), LeakCarousel.UNKNOWN);
    Told.dueRefused("calibrate(1, 0)", Told::busy, x -> x.calibrate(1, 0), LeakCarousel.BAD_VALUE);
    Told.dueRefused("calibrate(1, 100000)", Told::busy, x -> x.calibrate(1, 100000), LeakCarousel.BAD_VALUE);
  }

  /** "NOT_POSSIBLE if it is not empty": just filled, or a step ahead of its test. */
  private static void promise6NotEmpty() {
    Told.dueRefused("calibrate(0, 5)", Told::busy, x -> x.calibrate(0, 5), LeakCarousel.NOT_POSSIBLE);
    Told.dueRefused("calibrate(1, 5)", Told::busy, x -> x.calibrate(1, 5), LeakCarousel.NOT_POSSIBLE);
    Told.dueAct("calibrate of the empty head beside", Told::busy, x -> x.calibrate(2, 5), 0);
    // the part 0 holds the head as any other does
    LeakCarousel x = Told.withParts(1);
    x.run(1);
    Check.due("calibrate(0, 1)", x.calibrate(0, 1), LeakCarousel.NOT_POSSIBLE);
    Check.due("calibrate(1, 1)", x.calibrate(1, 1), 0);
  }

  private static void promise6EmptyAgain() {
    LeakCarousel x = Told.withParts(1);
    x.run(4);
    Check.due("before the test", x.calibrate(0, 9), LeakCarousel.NOT_POSSIBLE);
    x.run(1);
    Check.due("behind the test", x.calibrate(0, 9), 1);
    x.add(false, 1, 1);
    x.run(1);
    Check.due("under a part", x.calibrate(1, 9), LeakCarousel.NOT_POSSIBLE);
    Runs.perform(x, "clear");
    Check.due("behind clear", x.calibrate(1, 9), 0);
  }

  /** "Returns the number of tests since it was calibrated the last time", which becomes 0. */
  private static void promise6TestsSince() {
    LeakCarousel x = Told.withHeads(2);
    Check.due("before a test", x.calibrate(0, 9), 0);
    x.equip(1, 0, 2);
    Runs.read(x, "v1/1;v1/1;v1/1");
    x.run(7);
    Check.due("head(0, 2)", x.head(0, 2), 3);
    Check.due("behind three tests", x.calibrate(0, 9), 3);
    Check.due("head(0, 2)", x.head(0, 2), 0);
    Check.due("head(0, 4) stays", x.head(0, 4), 3);
    Check.due("count(7) stays", x.count(7), 3);
    Told.dueAct("calibrate once more is an act", () -> Told.withHeads(2), y -> y.calibrate(0, 9), 0);
    Check.due("once more", x.calibrate(0, 9), 0);
    x.add(false, 1, 1);
    x.run(4);
    Check.due("behind one test more", x.calibrate(0, 9), 1);
  }

  /** "as many times as there are other heads (n - 1)": one for two heads, seven for eight. */
  private static void promise6FewestAndMostHeads() {
    for (int heads = 2; heads <= 8; heads++) {
      LeakCarousel x = wornAtTheHead0(heads);
      double gain = x.gauge(0, 0);
      for (double filling = 1.0; filling <= 1000.0; filling += 249.75) {
        Runs.setPressure(x, 0, filling);
        int[] masters = {1, 2, 77, 3000, 31415, 50000, 99998, 99999};
        for (int master : masters) {
          double p = filling;
          for (int i = 0; i < heads - 1; i++) {
            p = p - p * master / (1000.0 * 100.0);
          }
          double expected = (filling - p) * 100.0 / (heads - 1);
          x.calibrate(0, master);
          Check.dueNumber("gauge(0, 1) of " + heads, x.gauge(0, 1), expected / (expected * gain));
          Check.dueNumber("gauge(0, 0) of " + heads, x.gauge(0, 0), gain);
        }
      }
    }
  }

  /** The head 0 has tested 25 times with the greatest wear. */
  private static LeakCarousel wornAtTheHead0(int heads) {
    LeakCarousel x = Told.withHeads(heads);
    x.equip(0, 1000, 0);
    for (int head = 1; head < heads; head++) {
      x.equip(head, 0, 2);
    }
    for (int i = 0; i < 25; i++) {
      x.add(false, 0, 1);
    }
    for (int turn = 0; turn < 26; turn++) {
      x.run(heads);
    }
    return x;
  }

  /** A gain that has never worn leaves the factor at 1.0; the others' factors stay. */
  private static void promise6FactorOfAWornGain() {
    Told.Made wornTwice = () -> {
      LeakCarousel x = new LeakCarousel();
      x.equip(2, 1000, 0);
      x.equip(3, 1000, 0);
      Runs.read(x, "v0/1;v0/1;v0/1;v0/1");
      x.run(8);
      return x;
    };
    Told.dueAct("calibrate of a worn head", wornTwice, x -> x.calibrate(2, 77), 1);
    LeakCarousel x = wornTwice.make();
    x.calibrate(1, 77);
    Check.dueNumber("gauge(1, 1)", x.gauge(1, 1), 1.0);
    x.calibrate(2, 77);
    Check.dueTrue("the factor is more than 1.0", x.gauge(2, 1) > 1.001);
    Check.dueNumber("gauge(3, 1)", x.gauge(3, 1), 1.0);
    Check.dueNumber("gauge(3, 0)", x.gauge(3, 0), 0.999);
  }
}
