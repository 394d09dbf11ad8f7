/** The edges that promises 7 and 8, PARTS and STEPS name, each sentence by itself. */
public final class EdgeStepsTest {
  private static final int[] FAR = {Integer.MIN_VALUE, Integer.MIN_VALUE + 3, -3, Integer.MAX_VALUE};

  public static void main(String[] args) {
    promise7LeakFrom0To99999();
    promise7VolumeFrom1To999();
    promise7AtMostSixty();
    promise7TwoErrors();
    promise7NumbersInOrder();
    promise7BehindTheOthers();
    promise7SixtyOfAllStates();
    promise8StepsFrom1To40();
    promise8StepsOfNothing();
    promise8TestsInOneCall();
    promise8StationComesRound();
    promise8StationFarOn();
    promise8LastPromisedCall();
    promise8OnlyTheStationTests();
    promise8EmptyHeadEndsNoTest();
    promise8FilledAtTheStationStays();
    promise8LeakOfNothing();
    promise8PressureNotBelowZero();
    promise8LargestLeakAndVolume();
    promise8FewestAndMostHeads();
    promise8HalfThePressure();
    promise8JustBelowHalf();
    promise8HalfOfItsOwnPressure();
    promise8IntervalOf1();
    promise8IntervalOf99();
    promise8IntervalCountsFromCalibration();
    promise8BurstAheadOfInterval();
    promise8IntervalAheadOfAccepting();
    promise8IntervalAheadOfRejecting();
    promise8AtTheLowerLimit();
    promise8AtTheUpperLimit();
    promise8BetweenTheLimits();
    promise8SecondAndThirdRetest();
    promise8ThirdRetestForTheInterval();
    promise8RetestsOfOtherCausesCount();
    promise8RetestedGoesToTheFront();
    promise8FrontAheadOfFront();
    promise8OnlyOneHeadFits();
    promise8OnlyTheLatestHeadIsBarred();
    promise8FirstThatFits();
    promise8NoneThatFits();
    promise8FixturesTake();
    promise8LastOfTheRow();
    promise8GainOnlyBehindATest();
    promise8GainBehindTheValue();
    promise8WearAtItsEnds();
    promise8FourStates();
    promise8HeadsOwnCounts();
    Check.finish();
  }

  // ---- promise 7: add

  private static void promise7LeakFrom0To99999() {
    Told.dueAct("add(false, 0, 10)", x -> x.add(false, 0, 10), 0, 5);
    Told.dueAct("add(true, 99999, 10)", x -> x.add(true, 99999, 10), 0, 5);
    Told.dueRefused("add(false, -1, 10)", x -> x.add(false, -1, 10), LeakCarousel.BAD_VALUE);
    Told.dueRefused("add(true, 100000, 10)", x -> x.add(true, 100000, 10), LeakCarousel.BAD_VALUE);
    for (int leak : FAR) {
      Told.dueRefused("add(true, " + leak + ", 10)", x -> x.add(true, leak, 10), LeakCarousel.BAD_VALUE);
    }
    LeakCarousel x = new LeakCarousel();
    x.add(false, 0, 10);
    x.add(true, 99999, 10);
    Check.due("part(0, 1)", x.part(0, 1), 0);
    Check.due("part(1, 1)", x.part(1, 1), 99999);
  }

  private static void promise7VolumeFrom1To999() {
    Told.dueAct("add(false, 10, 1)", x -> x.add(false, 10, 1), 0, 5);
    Told.dueAct("add(true, 10, 999)", x -> x.add(true, 10, 999), 0, 5);
    Told.dueRefused("add(false, 10, 0)", x -> x.add(false, 10, 0), LeakCarousel.BAD_VALUE);
    Told.dueRefused("add(true, 10, 1000)", x -> x.add(true, 10, 1000), LeakCarousel.BAD_VALUE);
    Told.dueRefused("add(true, 10, -1)", x -> x.add(true, 10, -1), LeakCarousel.BAD_VALUE);
    for (int volume : FAR) {
      Told.dueRefused("add(true, 10, " + volume + ")", x -> x.add(true, 10, volume), LeakCarousel.BAD_VALUE);
    }
    LeakCarousel x = new LeakCarousel();
    x.add(false, 10, 1);
    x.add(true, 10, 999);
    Check.due("part(0, 2)", x.part(0, 2), 1);
    Check.due("part(1, 2)", x.part(1, 2), 999);
  }

  /** "There are at most 60 parts", "FULL if there are 60" */
  private static void promise7AtMostSixty() {
    Told.dueAct("the 60th part", () -> Told.withParts(59), x -> x.add(true, 0, 1), 59);
    Told.dueRefused("the 61st part", Told::full, x -> x.add(true, 0, 1), LeakCarousel.FULL);
    Told.dueRefused("the 61st part", Told::full, x -> x.add(false, 99999, 999), LeakCarousel.FULL);
    LeakCarousel x = Told.full();
    x.undo();
    Check.due("the 60th part behind undo", x.add(true, 7, 8), 59);
    Check.due("part(59, 1)", x.part(59, 1), 7);
    Check.due("the 61st part", x.add(true, 7, 8), LeakCarousel.FULL);
  }

  /** "BAD_VALUE; FULL": the first of two that apply. */
  private static void promise7TwoErrors() {
    Told.dueRefused("a bad leak of a 61st", Told::full, x -> x.add(true, -1, 1), LeakCarousel.BAD_VALUE);
    Told.dueRefused("a bad leak of a 61st", Told::full, x -> x.add(true, 100000, 1), LeakCarousel.BAD_VALUE);
    Told.dueRefused("a bad volume of a 61st", Told::full, x -> x.add(true, 0, 0), LeakCarousel.BAD_VALUE);
    Told.dueRefused("a bad volume of a 61st", Told::full, x -> x.add(true, 0, 1000), LeakCarousel.BAD_VALUE);
    Told.dueRefused("both are bad", x -> x.add(true, -1, 0), LeakCarousel.BAD_VALUE);
  }

  /** "numbered from 0 in the order in which they were added"; a refused one takes no number. */
  private static void promise7NumbersInOrder() {
    LeakCarousel x = new LeakCarousel();
    for (int i = 0; i < 60; i++) {
      Check.due("a refused add", x.add(false, -1, 1), LeakCarousel.BAD_VALUE);
      Check.due("add", x.add(false, i, 1), i);
      Check.due("part(i, 1)", x.part(i, 1), i);
      Check.due("part(i, 8)", x.part(i, 8), i);
      Check.due("part(i + 1, 8)", x.part(i + 1, 8), LeakCarousel.UNKNOWN);
    }
  }

  /** "a new one comes behind the others": behind one that was retested too, and into an empty row. */
  private static void promise7BehindTheOthers() {
    LeakCarousel x = Told.withHeads(2);
    x.equip(1, 0, 2);
    x.add(false, 50, 100);
    x.run(1);
    Check.due("add to an empty row", x.add(false, 1, 1), 1);
    Check.due("part(1, 8)", x.part(1, 8), 0);
    x.run(2);
    Check.due("the retested one", x.part(0, 8), 0);
    Check.due("add behind the retested one", x.add(false, 1, 1), 2);
    Check.due("part(2, 8)", x.part(2, 8), 1);
    Check.due("part(0, 8)", x.part(0, 8), 0);
  }

  /** A part that is on a head, accepted or rejected takes its place among the 60 too. */
  private static void promise7SixtyOfAllStates() {
    LeakCarousel x = new LeakCarousel();
    for (int i = 0; i < 60; i++) {
      x.add(false, i % 2 == 0 ? 1 : 900, 1);
    }
    x.run(40);
    Runs.perform(x, "stop");
    x.add(false, 1, 1);
    Check.due("count(2)", x.count(2), 60);
    Check.due("count(3)", x.count(3), 0);
    Check.due("count(4)", x.count(4), 4);
    Check.due("count(5)", x.count(5), 18);
    Check.due("count(6)", x.count(6), 38);
    Check.due("add", x.add(false, 1, 1), LeakCarousel.FULL);
    Check.due("readParts()", Runs.read(x, "v1/1"), LeakCarousel.FULL);
  }

  // ---- promise 8: run, "1 to 40"

  private static void promise8StepsFrom1To40() {
    Told.dueAct("run(1)", x -> x.run(1), 0, 1);
    Told.dueAct("run(40)", x -> x.run(40), 0, 4);
    Told.dueRefused("run(0)", x -> x.run(0), LeakCarousel.BAD_VALUE);
    Told.dueRefused("run(41)", x -> x.run(41), LeakCarousel.BAD_VALUE);
    Told.dueRefused("run(-1)", x -> x.run(-1), LeakCarousel.BAD_VALUE);
    int[] far = {Integer.MIN_VALUE, Integer.MIN_VALUE + 1, -40, 256 + 1, 65536 + 40, Integer.MAX_VALUE};
    for (int steps : far) {
      Told.dueRefused("run(" + steps + ")", x -> x.run(steps), LeakCarousel.BAD_VALUE);
    }
    LeakCarousel x = new LeakCarousel();
    x.run(1);
    Check.due("count(1) behind run(1)", x.count(1), 1);
    x.run(40);
    Check.due("count(1) behind run(40)", x.count(1), 41);
  }

  /** A run that finds no part is an act and answers 0. */
  private static void promise8StepsOfNothing() {
    Told.dueAct("run(40) of nothing", Told::fresh, x -> x.run(40), 0);
    LeakCarousel x = new LeakCarousel();
    x.run(40);
    Check.due("count(7)", x.count(7), 0);
    for (int head = 0; head < 4; head++) {
      Check.due("head(head, 4)", x.head(head, 4), 0);
      Check.dueNumber("gauge(head, 0)", x.gauge(head, 0), 1.0);
    }
  }

  /** "Returns how many tests end in them": none, all but the first turn, and none again. */
  private static void promise8TestsInOneCall() {
    LeakCarousel x = Told.withHeads(2);
    x.setInterval(99);
    for (int i = 0; i < 60; i++) {
      x.add(false, 0, 1);
    }
    Check.due("run(2)", x.run(2), 0);
    Check.due("run(40)", x.run(40), 40);
    Check.due("run(20)", x.run(20), 20);
    Check.due("run(40)", x.run(40), 0);
    LeakCarousel y = Told.withHeads(8);
    for (int i = 0; i < 60; i++) {
      y.add(false, 0, 1);
    }
    Check.due("run(8)", y.run(8), 0);
    Check.due("run(1)", y.run(1), 1);
  }

  /** "In the step s (of a carousel with n heads) the head s mod n is at the station" */
  private static void promise8StationComesRound() {
    for (int heads = 2; heads <= 8; heads++) {
      LeakCarousel x = Told.withHeads(heads);
      Runs.read(x, "v0/1;v0/1;v0/1;v0/1;v0/1;v0/1;v0/1;v0/1;v0/1");
      x.run(heads - 1);
      Check.due("the last head comes next", x.head(heads - 1, 8), 0);
      Check.due("the last head is empty", x.head(heads - 1, 3), LeakCarousel.NONE);
      Check.due("the head 0 behind it", x.head(0, 8), 1);
      Check.due("no test yet", x.run(1), 0);
      Check.due("the last head is filled", x.head(heads - 1, 3), heads - 1);
      Check.due("the head 0 comes next again", x.head(0, 8), 0);
      Check.due("the last head has gone by", x.head(heads - 1, 8), heads - 1);
      Check.due("the first test", x.run(1), 1);
      Check.due("it was on the head 0", x.part(0, 6), 0);
      Check.due("head(0, 3)", x.head(0, 3), heads);
    }
  }

  private static void promise8StationFarOn() {
    for (int heads = 2; heads <= 8; heads++) {
      LeakCarousel x = Told.withHeads(heads);
      for (int i = 0; i < 450; i++) {
        x.run(40);
      }
      Check.due("count(1)", x.count(1), 18000);
      Check.due("head(18000 mod n, 8)", x.head(18000 % heads, 8), 0);
      x.add(false, 0, 1);
      x.run(1);
      Check.due("head(18000 mod n, 3)", x.head(18000 % heads, 3), 0);
    }
  }

  /** "An object is used for at most 512 calls after it has been made": the last one answers like the first. */
  private static void promise8LastPromisedCall() {
    LeakCarousel x = new LeakCarousel();
    for (int i = 0; i < 511; i++) {
      x.run(40);
    }
    Check.due("count(1), the 512th call", x.count(1), 511 * 40);
    LeakCarousel y = new LeakCarousel();
    for (int i = 0; i < 255; i++) {
      y.setInterval(1 + i % 2);
      y.setInterval(3);
    }
    Check.due("setInterval(99), the 511th call", y.setInterval(99), 3);
    Check.due("undo(), the 512th call", y.undo(), 3);
  }

  private static void promise8OnlyTheStationTests() {
    LeakCarousel x = Told.withHeads(4);
    Runs.read(x, "v0/1;v0/1;v0/1;v0/1");
    x.run(4);
    for (int head = 0; head < 4; head++) {
      Check.due("run(1)", x.run(1), 1);
      for (int other = 0; other < 4; other++) {
        Check.due("head(other, 4)", x.head(other, 4), other <= head ? 1 : 0);
        Check.due("head(other, 3)", x.head(other, 3), other <= head ? LeakCarousel.NONE : other);
      }
    }
  }

  /** "If the head at the station holds a part, its test ends" */
  private static void promise8EmptyHeadEndsNoTest() {
    LeakCarousel x = Told.withHeads(2);
    x.equip(0, 1000, 0);
    x.equip(1, 1000, 2);
    x.add(false, 0, 1);
    x.run(3);
    Check.due("run(40)", x.run(40), 0);
    Check.due("head(0, 2)", x.head(0, 2), 1);
    Check.due("head(1, 2)", x.head(1, 2), 0);
    Check.due("head(0, 4)", x.head(0, 4), 1);
  }

  /** "On each head that is not at the station": a part does not leak in the step that fills it. */
  private static void promise8FilledAtTheStationStays() {
    LeakCarousel x = Told.withHeads(2);
    x.add(false, 100, 1);
    x.add(false, 100, 1);
    x.run(1);
    Check.dueNumber("gauge(0, 3)", x.gauge(0, 3), 500.0);
    Check.dueNaN("trace(0, 1)", x.trace(0, 1));
    x.run(1);
    Check.dueNumber("gauge(0, 3)", x.gauge(0, 3), 450.0);
    Check.dueNumber("gauge(1, 3)", x.gauge(1, 3), 500.0);
    x.run(1);
    Check.dueNumber("value(0)", x.value(0), 50.0);
    Check.dueNumber("gauge(1, 3)", x.gauge(1, 3), 450.0);
  }

  private static void promise8LeakOfNothing() {
    LeakCarousel x = Told.withHeads(8);
    x.add(false, 0, 1);
    x.run(8);
    Check.dueNumber("gauge(0, 3)", x.gauge(0, 3), 500.0);
    Check.due("run(1)", x.run(1), 1);
    Check.dueNumber("value(0)", x.value(0), 0.0);
    Check.due("part(0, 3)", x.part(0, 3), Runs.ACCEPTED);
  }

  /** "but 0.0 if this is less than 0.0": just reached, just below, far below. */
  private static void promise8PressureNotBelowZero() {
    int[] leaks = {999, 1000, 1001, 99999};
    double[] due = {500.0 - 500.0 * 999 / 1000.0, 0.0, 0.0, 0.0};
    for (int i = 0; i < leaks.length; i++) {
      LeakCarousel x = Told.withHeads(8);
      x.add(true, leaks[i], 1);
      x.run(2);
      Check.dueNumber("gauge(0, 3) of " + leaks[i], x.gauge(0, 3), due[i]);
      Check.dueNumber("trace(0, 1) of " + leaks[i], x.trace(0, 1), due[i]);
      x.run(6);
      double last = Runs.decayed(500.0, leaks[i], 1, 7);
      Check.dueNumber("gauge(0, 3) of " + leaks[i], x.gauge(0, 3), last);
      Check.due("display(0) of " + leaks[i], x.display(0), Float.floatToRawIntBits((float) last));
      x.run(1);
      Check.dueNumber("value(0) of " + leaks[i], x.value(0), (500.0 - last) * 1 / 7 * 1.0 * 1.0);
      Check.due("part(0, 7) of " + leaks[i], x.part(0, 7), 1);
    }
  }

  private static void promise8LargestLeakAndVolume() {
    int[][] parts = {{0, 999}, {1, 999}, {99999, 999}, {99999, 100}, {99999, 99}, {1, 1}};
    for (int[] part : parts) {
      LeakCarousel x = new LeakCarousel();
      Runs.setPressure(x, 0, 1000.0);
      x.add(false, part[0], part[1]);
      x.run(5);
      double p = 1000.0;
      for (int i = 0; i < 3; i++) {
        p = p - p * part[0] / (1000.0 * part[1]);
        p = p < 0.0 ? 0.0 : p;
      }
      Check.dueNumber("value(0)", x.value(0), (1000.0 - p) * part[1] / 3);
    }
  }

  /** "drop * volume / (n - 1)": by 1 for two heads, by 7 for eight. */
  private static void promise8FewestAndMostHeads() {
    LeakCarousel two = Told.withHeads(2);
    two.add(false, 30, 10);
    two.run(3);
    double drop = 500.0 - (500.0 - 500.0 * 30 / (1000.0 * 10));
    Check.dueNumber("value(0) of two heads", two.value(0), drop * 10 / 1);
    LeakCarousel eight = Told.withHeads(8);
    eight.add(false, 30, 10);
    Check.due("run(8)", eight.run(8), 0);
    Check.due("run(1)", eight.run(1), 1);
    double p = 500.0;
    for (int i = 0; i < 7; i++) {
      p = p - p * 30 / (1000.0 * 10);
    }
    Check.dueNumber("value(0) of eight heads", eight.value(0), (500.0 - p) * 10 / 7);
  }

  // ---- the judgement

  /** The cause of a first test on two heads, or 0 if it is accepted, 9 if it is to be retested. */
  private static int judged(int leak, int volume, double lower, double upper) {
    LeakCarousel x = Told.withHeads(2);
    Runs.setPressure(x, 1, lower);
    Runs.setPressure(x, 2, upper);
    x.add(false, leak, volume);
    x.run(3);
    if (x.part(0, 3) == Runs.ACCEPTED) {
      return 0;
    }
    return x.part(0, 3) == Runs.WAITING ? 9 : x.part(0, 7);
  }

  /** "if its present pressure is less than the one with which it was filled / 2": not at half of it. */
  private static void promise8HalfThePressure() {
    Check.due("half of it", judged(500, 1, 1000.0, 1000.0), 0);
    Check.due("half of it", judged(500, 1, 0.0, 0.0), 2);
    Check.due("less than half of it", judged(501, 1, 1000.0, 1000.0), 1);
    Check.due("more than half of it", judged(499, 1, 1000.0, 1000.0), 0);
    Check.due("nothing of it", judged(99999, 1, 1000000.0, 1000000.0), 1);
    Check.due("half of it", judged(5000, 10, 1000000.0, 1000000.0), 0);
  }

  /** The doubles right beside half of 1.1841: only the lower one is less than half. */
  private static void promise8JustBelowHalf() {
    dueBesideHalf(29, Math.nextDown(1.1841 / 2), 1);
    dueBesideHalf(1, 1.1841 / 2, LeakCarousel.NONE);
    dueBesideHalf(63, Math.nextUp(1.1841 / 2), LeakCarousel.NONE);
  }

  /** A leak of 500 times the volume takes half of the pressure on two heads, but for the rounding. */
  private static void dueBesideHalf(int volume, double pressure, int cause) {
    LeakCarousel x = Told.withHeads(2);
    Runs.setPressure(x, 0, 1.1841);
    Runs.setPressure(x, 1, 1000000.0);
    x.add(false, 500 * volume, volume);
    x.run(2);
    Check.dueNumber("gauge(0, 3)", x.gauge(0, 3), pressure);
    x.run(1);
    Check.due("part(0, 7) from " + pressure, x.part(0, 7), cause);
  }

  /** "the one with which it was filled": not the filling pressure of the present. */
  private static void promise8HalfOfItsOwnPressure() {
    LeakCarousel x = Told.withHeads(2);
    Runs.setPressure(x, 1, 1000.0);
    Runs.read(x, "v400/1;v600/1");
    x.run(1);
    Runs.setPressure(x, 0, 1000.0);
    x.run(1);
    Runs.setPressure(x, 0, 1.0);
    x.run(2);
    Check.due("300.0 of 500.0 is no burst", x.part(0, 3), Runs.ACCEPTED);
    Check.due("400.0 of 1000.0 is a burst", x.part(1, 7), 1);
  }

  /** Pipes that only the head 0 of two takes; each test of it takes two steps. */
  private static LeakCarousel oneHeadTests(int parts, int leak, int volume) {
    LeakCarousel x = Told.withHeads(2);
    x.equip(1, 0, 1);
    for (int i = 0; i < parts; i++) {
      x.add(true, leak, volume);
    }
    x.run(1);
    return x;
  }

  private static void runFar(LeakCarousel x, int steps) {
    int left = steps;
    while (left > 40) {
      x.run(40);
      left -= 40;
    }
    if (left > 0) {
      x.run(left);
    }
  }

  /** "if the tests since the head was calibrated (with this one) are more than the interval" */
  private static void promise8IntervalOf1() {
    LeakCarousel x = oneHeadTests(3, 0, 1);
    x.setInterval(1);
    x.run(2);
    Check.due("the first test", x.part(0, 3), Runs.ACCEPTED);
    Check.due("the first test", x.part(0, 5), 0);
    x.run(2);
    Check.due("the second test", x.part(1, 3), Runs.WAITING);
    Check.due("the second test", x.part(1, 5), 1);
    Check.due("head(0, 2)", x.head(0, 2), 2);
    Check.due("head(0, 7)", x.head(0, 7), 1);
  }

  /**
   * The 99th test of the head 0 is not more than 99, its 100th is: 60 pipes are retested there for the
   * cause 3, then on the head 1, and come to the head 0 a third time.
   */
  private static void promise8IntervalOf99() {
    LeakCarousel x = oneHeadTests(60, 50, 100);
    x.setInterval(99);
    runFar(x, 120);
    Check.due("head(0, 2)", x.head(0, 2), 60);
    Check.due("count(8)", x.count(8), 60);
    x.equip(0, 0, 1);
    x.equip(1, 0, 0);
    runFar(x, 121);
    Check.due("head(1, 2)", x.head(1, 2), 60);
    Check.due("count(8)", x.count(8), 120);
    x.equip(1, 0, 1);
    x.equip(0, 0, 0);
    Check.due("count(1)", x.count(1), 242);
    runFar(x, 1 + 2 * 38);
    Check.due("head(0, 2)", x.head(0, 2), 98);
    Check.due("count(12) behind the 98th test", x.count(12), 38);
    x.run(2);
    Check.due("count(12) behind the 99th test", x.count(12), 39);
    Check.due("count(13) behind the 99th test", x.count(13), 0);
    x.run(2);
    Check.due("count(12) behind the 100th test", x.count(12), 39);
    Check.due("count(13) behind the 100th test", x.count(13), 1);
  }

  /** "since the head was calibrated": of this head, and counted from 0 again. */
  private static void promise8IntervalCountsFromCalibration() {
    LeakCarousel x = oneHeadTests(1, 0, 1);
    x.setInterval(2);
    for (int i = 1; i <= 5; i++) {
      x.run(2);
      Check.due("part(i - 1, 3)", x.part(i - 1, 3), Runs.ACCEPTED);
      Check.due("calibrate(1, 5)", x.calibrate(1, 5), 0);
      if (i % 2 == 0) {
        Check.due("calibrate(0, 5)", x.calibrate(0, 5), 2);
      }
      x.add(true, 0, 1);
      x.run(2);
    }
    Check.due("head(0, 4)", x.head(0, 4), 5);
    Check.due("count(8)", x.count(8), 0);
  }

  /** "it is rejected for the cause 1; otherwise, if the tests ..." */
  private static void promise8BurstAheadOfInterval() {
    LeakCarousel x = oneHeadTests(1, 0, 1);
    x.setInterval(1);
    x.run(1);
    x.add(true, 501, 1);
    x.add(true, 500, 1);
    x.run(3);
    Check.due("head(0, 2)", x.head(0, 2), 2);
    Check.due("part(1, 7)", x.part(1, 7), 1);
    x.run(2);
    Check.due("part(2, 3)", x.part(2, 3), Runs.WAITING);
  }

  private static void promise8IntervalAheadOfAccepting() {
    LeakCarousel x = oneHeadTests(2, 0, 1);
    x.setInterval(1);
    x.run(4);
    Check.dueNumber("value(1)", x.value(1), 0.0);
    Check.due("part(1, 3)", x.part(1, 3), Runs.WAITING);
    Check.due("count(5)", x.count(5), 1);
  }

  private static void promise8IntervalAheadOfRejecting() {
    LeakCarousel x = oneHeadTests(2, 499, 1);
    x.setInterval(1);
    x.run(2);
    Check.due("within the interval", x.part(0, 7), 2);
    x.run(2);
    Check.dueTrue("above the upper limit", x.value(1) > 30.0);
    Check.due("beyond the interval", x.part(1, 3), Runs.WAITING);
  }

  /** "if the value is at most the lower limit, it is accepted" */
  private static void promise8AtTheLowerLimit() {
    // the value is 20.0
    Check.due("at it", judged(40, 1, 20.0, 30.0), 0);
    Check.due("a double above it", judged(40, 1, Math.nextDown(20.0), 30.0), 9);
    Check.due("a double below it", judged(40, 1, Math.nextUp(20.0), 30.0), 0);
    Check.due("0.0 at 0.0", judged(0, 1, 0.0, 0.0), 0);
  }

  /** "if the value is more than the upper limit, it is rejected for the cause 2" */
  private static void promise8AtTheUpperLimit() {
    // the value is 30.0
    Check.due("at it", judged(60, 1, 20.0, 30.0), 9);
    Check.due("a double above it", judged(60, 1, 20.0, Math.nextDown(30.0)), 2);
    Check.due("a double below it", judged(60, 1, 20.0, Math.nextUp(30.0)), 9);
  }

  /** "otherwise it is to be retested for the cause 3": nothing stands between limits that are alike. */
  private static void promise8BetweenTheLimits() {
    Check.due("between them", judged(50, 1, 20.0, 30.0), 9);
    Check.due("both at it", judged(50, 1, 25.0, 25.0), 0);
    Check.due("both a double below it", judged(50, 1, Math.nextDown(25.0), Math.nextDown(25.0)), 2);
    Check.due("one double between them", judged(50, 1, Math.nextDown(25.0), 25.0), 9);
    Check.due("the upper below the lower", judged(50, 1, 25.0, 0.0), 0);
  }

  // ---- retests

  /** "if it was retested twice already, it is rejected for this cause (3 or 4) instead" */
  private static void promise8SecondAndThirdRetest() {
    LeakCarousel x = Told.withHeads(2);
    x.add(false, 50, 100);
    x.run(3);
    dueRetested(x, 1, 0);
    x.run(3);
    dueRetested(x, 2, 1);
    x.run(3);
    Check.due("part(0, 3)", x.part(0, 3), Runs.REJECTED);
    Check.due("part(0, 7)", x.part(0, 7), 3);
    Check.due("part(0, 5)", x.part(0, 5), 2);
    Check.due("part(0, 4)", x.part(0, 4), 3);
    Check.due("part(0, 8)", x.part(0, 8), LeakCarousel.NONE);
    Check.due("count(8)", x.count(8), 2);
    Check.due("count(12)", x.count(12), 1);
    Check.due("head(0, 7)", x.head(0, 7), 1);
    Check.due("head(0, 6)", x.head(0, 6), 1);
    Check.due("run(40)", x.run(40), 0);
  }

  private static void dueRetested(LeakCarousel x, int retests, int head) {
    Check.due("part(0, 3)", x.part(0, 3), Runs.WAITING);
    Check.due("part(0, 5)", x.part(0, 5), retests);
    Check.due("part(0, 6)", x.part(0, 6), head);
    Check.due("part(0, 7)", x.part(0, 7), LeakCarousel.NONE);
    Check.due("part(0, 8)", x.part(0, 8), 0);
    Check.due("count(8)", x.count(8), retests);
  }

  private static void promise8ThirdRetestForTheInterval() {
    LeakCarousel x = Told.withHeads(2);
    x.setInterval(1);
    Runs.read(x, "v0/1;v0/1");
    x.run(4);
    Check.due("count(5)", x.count(5), 2);
    x.add(false, 0, 1);
    x.run(1);
    x.run(2);
    Check.due("the first", x.part(2, 5), 1);
    Check.due("the first", x.part(2, 3), Runs.WAITING);
    x.run(3);
    Check.due("the second", x.part(2, 5), 2);
    Check.due("the second", x.part(2, 3), Runs.WAITING);
    x.run(3);
    Check.due("the third", x.part(2, 7), 4);
    Check.due("count(13)", x.count(13), 1);
    Check.due("count(12)", x.count(12), 0);
  }

  /** Two retests for the cause 4 leave none for the cause 3; a part that leaks or passes is judged so. */
  private static void promise8RetestsOfOtherCausesCount() {
    Check.due("then cause 3", causeOfTheThirdTest(50), 3);
    Check.due("then cause 2", causeOfTheThirdTest(80), 2);
    Check.due("then accepted", causeOfTheThirdTest(0), LeakCarousel.NONE);
  }

  private static int causeOfTheThirdTest(int leak) {
    LeakCarousel x = Told.withHeads(2);
    x.setInterval(1);
    Runs.read(x, "v0/1;v0/1");
    x.run(4);
    x.add(false, leak, 100);
    x.run(6);
    Check.due("part(2, 5)", x.part(2, 5), 2);
    Check.due("part(2, 3)", x.part(2, 3), Runs.WAITING);
    x.setInterval(99);
    x.run(3);
    Check.due("part(2, 4)", x.part(2, 4), 3);
    return x.part(2, 7);
  }

  /** "A part that is to be retested comes to the front of the row": of a full one and of an empty one. */
  private static void promise8RetestedGoesToTheFront() {
    LeakCarousel x = Told.withHeads(2);
    x.equip(1, 0, 2);
    for (int i = 0; i < 60; i++) {
      x.add(false, 50, 100);
    }
    x.run(3);
    Check.due("the retested one", x.part(0, 8), 0);
    Check.due("the one on the head", x.part(1, 8), LeakCarousel.NONE);
    for (int i = 2; i < 60; i++) {
      Check.due("part(i, 8)", x.part(i, 8), i - 1);
    }
    LeakCarousel y = Told.withHeads(2);
    y.add(false, 50, 100);
    y.run(3);
    Check.due("alone in the row", y.part(0, 8), 0);
    Check.due("count(3)", y.count(3), 1);
  }

  private static void promise8FrontAheadOfFront() {
    LeakCarousel x = oneHeadTests(4, 50, 100);
    x.run(8);
    for (int i = 0; i < 4; i++) {
      Check.due("part(i, 8)", x.part(i, 8), 3 - i);
    }
  }

  /** "whose latest test (if it had any) was not on this head" */
  private static void promise8OnlyOneHeadFits() {
    LeakCarousel x = oneHeadTests(1, 50, 100);
    x.run(2);
    Check.due("count(8)", x.count(8), 1);
    Check.due("run(40)", x.run(40), 0);
    Check.due("it waits on", x.part(0, 3), Runs.WAITING);
    Check.due("the head stays empty", x.head(0, 3), LeakCarousel.NONE);
    x.equip(1, 0, 2);
    x.run(1);
    Check.due("another head takes it", x.head(1, 3), 0);
  }

  private static void promise8OnlyTheLatestHeadIsBarred() {
    LeakCarousel x = Told.withHeads(2);
    x.add(false, 50, 100);
    x.run(1);
    Check.due("without a test", x.head(0, 3), 0);
    x.run(2);
    Check.due("its latest head", x.head(0, 3), LeakCarousel.NONE);
    x.run(1);
    Check.due("the other head", x.head(1, 3), 0);
    x.run(2);
    Check.due("now its latest head", x.head(1, 3), LeakCarousel.NONE);
    x.run(1);
    Check.due("the head of the test before", x.head(0, 3), 0);
  }

  // ---- the row and the fixtures

  /** "the first one that fits the fixture of the head at the station ... is put on the head, if there is one" */
  private static void promise8FirstThatFits() {
    LeakCarousel x = Told.withHeads(2);
    x.equip(0, 0, 2);
    x.equip(1, 0, 1);
    Runs.read(x, "v1/1;v1/1;p1/1;p1/1;v1/1");
    x.run(1);
    Check.due("the first pipe", x.head(0, 3), 2);
    dueRow(x, 0, 1, 3, 4);
    x.run(1);
    Check.due("the first valve", x.head(1, 3), 0);
    dueRow(x, 1, 3, 4);
  }

  private static void dueRow(LeakCarousel x, int... row) {
    Check.due("count(3)", x.count(3), row.length);
    for (int place = 0; place < row.length; place++) {
      Check.due("part(" + row[place] + ", 8)", x.part(row[place], 8), place);
      Check.due("part(" + row[place] + ", 3)", x.part(row[place], 3), Runs.WAITING);
    }
  }

  private static void promise8NoneThatFits() {
    LeakCarousel x = Told.withHeads(2);
    x.equip(0, 0, 2);
    x.equip(1, 0, 2);
    Runs.read(x, "v1/1;v1/1");
    Check.due("run(40)", x.run(40), 0);
    Check.due("head(0, 3)", x.head(0, 3), LeakCarousel.NONE);
    Check.due("head(1, 3)", x.head(1, 3), LeakCarousel.NONE);
    dueRow(x, 0, 1);
    x.add(true, 1, 1);
    x.run(1);
    Check.due("the last one of the row", x.head(0, 3), 2);
    dueRow(x, 0, 1);
  }

  /** "0 takes any part, 1 valves only, 2 pipes only" */
  private static void promise8FixturesTake() {
    for (int pipe = 0; pipe <= 1; pipe++) {
      for (int fixture = 0; fixture <= 2; fixture++) {
        LeakCarousel x = Told.withHeads(2);
        x.equip(0, 0, fixture);
        x.add(pipe == 1, 1, 1);
        x.run(1);
        boolean taken = fixture == 0 || fixture == (pipe == 1 ? 2 : 1);
        Check.due("head(0, 3)", x.head(0, 3), taken ? 0 : LeakCarousel.NONE);
        Check.due("part(0, 3)", x.part(0, 3), taken ? Runs.ON_HEAD : Runs.WAITING);
      }
    }
  }

  /** The 60th part is found behind 59 that do not fit. */
  private static void promise8LastOfTheRow() {
    LeakCarousel x = Told.withHeads(2);
    x.equip(0, 0, 2);
    x.equip(1, 0, 2);
    for (int i = 0; i < 60; i++) {
      x.add(i == 59, 0, 1);
    }
    x.run(1);
    Check.due("head(0, 3)", x.head(0, 3), 59);
    Check.due("part(58, 8)", x.part(58, 8), 58);
    Check.due("part(59, 8)", x.part(59, 8), LeakCarousel.NONE);
    x.run(2);
    Check.due("part(59, 3)", x.part(59, 3), Runs.ACCEPTED);
  }

  // ---- the gain

  /** "Then (only when a test has ended on it) the gain of the head becomes ..." */
  private static void promise8GainOnlyBehindATest() {
    LeakCarousel x = Told.withHeads(3);
    for (int head = 0; head < 3; head++) {
      x.equip(head, 1000, head == 0 ? 0 : 1);
    }
    x.add(true, 0, 1);
    x.run(3);
    Check.dueNumber("gauge(0, 0) ahead of the test", x.gauge(0, 0), 1.0);
    x.run(1);
    Check.dueNumber("gauge(0, 0) behind the test", x.gauge(0, 0), 0.999);
    x.run(40);
    Check.dueNumber("gauge(0, 0) without a test", x.gauge(0, 0), 0.999);
    Check.dueNumber("gauge(1, 0)", x.gauge(1, 0), 1.0);
    Check.dueNumber("gauge(2, 0)", x.gauge(2, 0), 1.0);
  }

  /** The value is told with the gain before this test. */
  private static void promise8GainBehindTheValue() {
    LeakCarousel x = Told.withHeads(2);
    x.equip(0, 1000, 0);
    x.equip(1, 0, 2);
    Runs.read(x, "v10/1;v10/1");
    x.run(5);
    Check.dueNumber("value(0)", x.value(0), 5.0);
    Check.dueNumber("value(1)", x.value(1), 5.0 * 0.999);
    Check.dueNumber("gauge(0, 0)", x.gauge(0, 0), 0.999 * 0.999);
  }

  private static void promise8WearAtItsEnds() {
    int[] wears = {0, 1, 999, 1000};
    for (int wear : wears) {
      LeakCarousel x = Told.withHeads(2);
      x.equip(0, wear, 0);
      x.equip(1, 0, 2);
      double gain = 1.0;
      for (int i = 0; i < 60; i++) {
        // a burst wears the gain as any other test does
        x.add(false, i % 2 == 0 ? 0 : 900, 1);
      }
      x.run(1);
      for (int i = 0; i < 60; i++) {
        Check.dueNumber("gauge(0, 0) of wear " + wear, x.gauge(0, 0), gain);
        x.run(2);
        gain = gain * (1.0 - wear / 1000000.0);
      }
      Check.dueNumber("gauge(0, 0) of wear " + wear, x.gauge(0, 0), gain);
    }
  }

  // ---- what is counted

  /** "A part is always in one of four states" */
  private static void promise8FourStates() {
    LeakCarousel x = Told.busy();
    int[] due = {Runs.ON_HEAD, Runs.REJECTED, Runs.ACCEPTED, Runs.ON_HEAD, Runs.WAITING};
    for (int part = 0; part < due.length; part++) {
      Check.due("part(" + part + ", 3)", x.part(part, 3), due[part]);
    }
    for (int i = 0; i < 30; i++) {
      int[] states = new int[4];
      for (int part = 0; part < due.length; part++) {
        states[x.part(part, 3)]++;
      }
      for (int state = 0; state < 4; state++) {
        Check.due("count(" + (3 + state) + ")", x.count(3 + state), states[state]);
      }
      x.run(1);
    }
  }

  /** A head counts what was accepted, rejected and retested on it, not on the others. */
  private static void promise8HeadsOwnCounts() {
    LeakCarousel x = Told.withHeads(4);
    Runs.read(x, "v0/1;v900/1;v50/100;v300/100");
    x.run(8);
    int[][] due = {{1, 1, 0, 0}, {1, 0, 1, 0}, {1, 0, 0, 1}, {1, 0, 1, 0}};
    for (int head = 0; head < 4; head++) {
      for (int what = 4; what <= 7; what++) {
        Check.due("head(" + head + ", " + what + ")", x.head(head, what), due[head][what - 4]);
      }
    }
    Check.due("count(7)", x.count(7), 4);
    Check.due("count(8)", x.count(8), 1);
  }
}
