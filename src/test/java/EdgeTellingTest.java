/** The edges that promises 16 to 25 name, each sentence by itself. */
public final class EdgeTellingTest {
  private static final int[] FAR = {Integer.MIN_VALUE, Integer.MIN_VALUE + 1, -256, -5, -2, -1, 256, 65536,
    Integer.MAX_VALUE - 1, Integer.MAX_VALUE};

  public static void main(String[] args) {
    headsOfFewestAndMost();
    headsFarOutside();
    partsOfNoneAndSixty();
    partsFarOutside();
    partsBehindBuildAndUndo();
    promise16WhatFrom0To8();
    promise16UnknownAheadOfBadValue();
    promise16NoneIfEmpty();
    promise16PartZeroIsNotNone();
    promise16StepsUntil();
    promise17WhatFrom0To3();
    promise17EmptyHead();
    promise17PressureOf0IsNoNaN();
    promise18EndsOfAPressure();
    promise18RoundsToTheNearest();
    promise18Empty();
    promise19WhatFrom0To8();
    promise19UnknownAheadOfBadValue();
    promise19NoneWithoutATest();
    promise19CausesFrom1To5();
    promise19PlaceInTheRow();
    promise20PartOrHead();
    promise20EveryFixture();
    promise20ByTheFixtureAlone();
    promise21NoTest();
    promise21ValueOf0IsNoNaN();
    promise21LatestTest();
    promise22PresentFillingPressure();
    promise22PresentGainAndFactor();
    promise22AlsoIfItDoesNotFit();
    promise22EveryState();
    promise22EndsOfLeakAndVolume();
    promise22ChangesNothing();
    promise23WhatFrom0To2();
    promise23BitsAtTheEnds();
    promise24StepOf0();
    promise24LastStep();
    promise24NegativeStep();
    promise24EmptyHead();
    promise24FewestAndMostHeads();
    promise24FilledAnew();
    promise25WhatFrom0To16();
    promise25EmptyAndFull();
    promise25EveryCause();
    tellingIsNoAct();
    Check.finish();
  }

  // ---- which heads and parts there are

  private static void dueNoHead(LeakCarousel x, int head) {
    Check.due("head(" + head + ", 0)", x.head(head, 0), LeakCarousel.UNKNOWN);
    Check.dueNaN("gauge(" + head + ", 0)", x.gauge(head, 0));
    Check.dueNaN("gauge(" + head + ", 1)", x.gauge(head, 1));
    Check.dueNaN("gauge(" + head + ", 2)", x.gauge(head, 2));
    Check.due("display(" + head + ")", x.display(head), LeakCarousel.UNKNOWN);
    Check.due("fits(0, " + head + ")", x.fits(0, head), LeakCarousel.UNKNOWN);
    Check.dueNaN("foretold(0, " + head + ")", x.foretold(0, head));
    Check.dueNaN("trace(" + head + ", 0)", x.trace(head, 0));
  }

  private static void dueHead(LeakCarousel x, int head) {
    Check.due("head(" + head + ", 0)", x.head(head, 0), 0);
    Check.dueNumber("gauge(" + head + ", 0)", x.gauge(head, 0), 1.0);
    Check.due("display(" + head + ")", x.display(head), Float.floatToRawIntBits(500.0f));
    Check.due("fits(0, " + head + ")", x.fits(0, head), 1);
    Check.dueNumber("foretold(0, " + head + ")", x.foretold(0, head), 0.0);
    Check.dueNumber("trace(" + head + ", 0)", x.trace(head, 0), 500.0);
  }

  /** "2 to 8 heads (at first 4), numbered from 0" */
  private static void headsOfFewestAndMost() {
    for (int heads = 2; heads <= 8; heads++) {
      LeakCarousel x = Told.withHeads(heads);
      for (int i = 0; i < heads; i++) {
        x.add(false, 0, 1);
      }
      x.run(heads);
      for (int head = 0; head < heads; head++) {
        dueHead(x, head);
      }
      dueNoHead(x, -1);
      for (int head = heads; head <= 9; head++) {
        dueNoHead(x, head);
      }
    }
  }

  private static void headsFarOutside() {
    LeakCarousel x = Told.busy();
    for (int head : FAR) {
      dueNoHead(x, head);
    }
  }

  private static void dueNoPart(LeakCarousel x, int part) {
    for (int what = 0; what <= 8; what++) {
      Check.due("part(" + part + ", " + what + ")", x.part(part, what), LeakCarousel.UNKNOWN);
    }
    Check.due("fits(" + part + ", 0)", x.fits(part, 0), LeakCarousel.UNKNOWN);
    Check.dueNaN("value(" + part + ")", x.value(part));
    Check.dueNaN("foretold(" + part + ", 0)", x.foretold(part, 0));
  }

  /** "at most 60 parts, numbered from 0" */
  private static void partsOfNoneAndSixty() {
    LeakCarousel none = new LeakCarousel();
    dueNoPart(none, 0);
    dueNoPart(none, 59);
    LeakCarousel full = Told.full();
    Check.due("part(0, 2)", full.part(0, 2), 1);
    Check.due("part(59, 2)", full.part(59, 2), 60);
    Check.due("fits(59, 0)", full.fits(59, 0), 1);
    Check.dueNumber("foretold(0, 0)", full.foretold(0, 0), 0.0);
    Check.dueTrue("foretold(59, 0)", full.foretold(59, 0) > 0.0);
    dueNoPart(full, 60);
    dueNoPart(full, -1);
    LeakCarousel some = Told.withParts(59);
    Check.due("part(58, 2)", some.part(58, 2), 59);
    dueNoPart(some, 59);
  }

  private static void partsFarOutside() {
    LeakCarousel x = Told.full();
    for (int part : FAR) {
      dueNoPart(x, part);
    }
  }

  private static void partsBehindBuildAndUndo() {
    LeakCarousel x = Told.withParts(2);
    x.run(8);
    x.build(4);
    dueNoPart(x, 0);
    x.undo();
    Check.due("part(1, 2)", x.part(1, 2), 2);
    Check.dueNumber("value(0)", x.value(0), 0.0);
    x.undo();
    x.undo();
    dueNoPart(x, 1);
    Check.due("part(0, 2)", x.part(0, 2), 1);
    Check.dueNaN("value(0)", x.value(0));
  }

  // ---- promise 16: head

  private static void promise16WhatFrom0To8() {
    LeakCarousel x = Told.busy();
    int[][] due = {
      {500, 1, 2, 3, 2, 1, 0, 1, 2},
      {0, 0, 1, 0, 1, 0, 1, 0, 0},
      {7, 2, 0, LeakCarousel.NONE, 0, 0, 0, 0, 1}};
    for (int head = 0; head < 3; head++) {
      for (int what = 0; what <= 8; what++) {
        Check.due("head(" + head + ", " + what + ")", x.head(head, what), due[head][what]);
      }
      Check.due("head(head, 9)", x.head(head, 9), LeakCarousel.BAD_VALUE);
      for (int what : FAR) {
        Check.due("head(head, " + what + ")", x.head(head, what), LeakCarousel.BAD_VALUE);
      }
    }
  }

  /** "UNKNOWN; BAD_VALUE": the first of two that apply. */
  private static void promise16UnknownAheadOfBadValue() {
    LeakCarousel x = Told.busy();
    int[] heads = {-1, 3, 8, Integer.MIN_VALUE, Integer.MAX_VALUE};
    for (int head : heads) {
      Check.due("head(" + head + ", 9)", x.head(head, 9), LeakCarousel.UNKNOWN);
      Check.due("head(" + head + ", -1)", x.head(head, -1), LeakCarousel.UNKNOWN);
      Check.due("head(" + head + ", 8)", x.head(head, 8), LeakCarousel.UNKNOWN);
    }
  }

  /** "3 for the part on it (NONE if it is empty)" */
  private static void promise16NoneIfEmpty() {
    LeakCarousel x = Told.withParts(1);
    Check.due("ahead of the step that fills it", x.head(0, 3), LeakCarousel.NONE);
    x.run(1);
    Check.due("filled", x.head(0, 3), 0);
    x.run(3);
    Check.due("a step ahead of its test", x.head(0, 3), 0);
    x.run(1);
    Check.due("behind its test", x.head(0, 3), LeakCarousel.NONE);
  }

  private static void promise16PartZeroIsNotNone() {
    LeakCarousel x = Told.full();
    x.run(4);
    for (int head = 0; head < 4; head++) {
      Check.due("head(head, 3)", x.head(head, 3), head);
    }
    LeakCarousel y = Told.withHeads(2);
    y.equip(0, 0, 2);
    y.equip(1, 0, 1);
    for (int i = 0; i < 60; i++) {
      y.add(i == 59, 0, 1);
    }
    y.run(1);
    Check.due("the last part", y.head(0, 3), 59);
  }

  /** "8 for the steps until it is at the station (0 if it is there in the next step)" */
  private static void promise16StepsUntil() {
    for (int heads = 2; heads <= 8; heads++) {
      LeakCarousel x = Told.withHeads(heads);
      for (int step = 0; step <= 2 * heads; step++) {
        for (int head = 0; head < heads; head++) {
          int until = 0;
          while ((step + until) % heads != head) {
            until++;
          }
          Check.due("head(" + head + ", 8) behind " + step, x.head(head, 8), until);
        }
        x.run(1);
      }
    }
  }

  // ---- promise 17: gauge

  private static void promise17WhatFrom0To3() {
    LeakCarousel x = Told.busy();
    double worn = 1.0 * (1.0 - 500 / 1000000.0);
    Check.dueNumber("gauge(0, 0)", x.gauge(0, 0), worn * (1.0 - 500 / 1000000.0));
    Check.dueNumber("gauge(0, 1)", x.gauge(0, 1), 1.0);
    Check.dueNumber("gauge(1, 2)", x.gauge(1, 2), 400.0);
    Check.dueNumber("gauge(1, 3)", x.gauge(1, 3), Runs.decayed(400.0, 60, 100, 2));
    for (int head = 0; head < 3; head++) {
      Check.dueNaN("gauge(head, 4)", x.gauge(head, 4));
      for (int what : FAR) {
        Check.dueNaN("gauge(head, " + what + ")", x.gauge(head, what));
        Check.dueNaN("gauge(" + what + ", what)", x.gauge(what, what));
      }
    }
    Check.dueNaN("gauge(3, 4)", x.gauge(3, 4));
  }

  /** "a NaN if ... (2 and 3) it is empty": 0 and 1 are told of an empty head too. */
  private static void promise17EmptyHead() {
    LeakCarousel x = Told.withParts(1);
    for (int head = 0; head < 4; head++) {
      Check.dueNumber("gauge(head, 0)", x.gauge(head, 0), 1.0);
      Check.dueNumber("gauge(head, 1)", x.gauge(head, 1), 1.0);
      Check.dueNaN("gauge(head, 2)", x.gauge(head, 2));
      Check.dueNaN("gauge(head, 3)", x.gauge(head, 3));
    }
    x.run(1);
    Check.dueNumber("gauge(0, 2)", x.gauge(0, 2), 500.0);
    Check.dueNumber("gauge(0, 3)", x.gauge(0, 3), 500.0);
    x.run(4);
    Check.dueNaN("gauge(0, 2) behind its test", x.gauge(0, 2));
    Check.dueNaN("gauge(0, 3) behind its test", x.gauge(0, 3));
    x.add(false, 1, 1);
    x.run(1);
    Check.dueNumber("gauge(1, 2)", x.gauge(1, 2), 500.0);
    Runs.perform(x, "clear");
    Check.dueNaN("gauge(1, 2) behind clear", x.gauge(1, 2));
    Check.dueNaN("gauge(1, 3) behind clear", x.gauge(1, 3));
  }

  private static LeakCarousel holding(double filling, int leak, int volume, int steps) {
    LeakCarousel x = new LeakCarousel();
    Runs.setPressure(x, 0, filling);
    x.add(false, leak, volume);
    x.run(steps);
    return x;
  }

  private static void promise17PressureOf0IsNoNaN() {
    LeakCarousel x = holding(500.0, 1000, 1, 2);
    Check.dueNumber("gauge(0, 2)", x.gauge(0, 2), 500.0);
    Check.dueNumber("gauge(0, 3)", x.gauge(0, 3), 0.0);
  }

  // ---- promise 18: display

  private static void promise18EndsOfAPressure() {
    Check.due("display(0) of 1.0", holding(1.0, 0, 1, 1).display(0), 0x3F800000);
    Check.due("display(0) of 1000.0", holding(1000.0, 0, 1, 1).display(0), 0x447A0000);
    Check.due("display(0) of 500.0", holding(500.0, 0, 1, 1).display(0), 0x43FA0000);
    Check.due("display(0) of 0.0", holding(500.0, 99999, 1, 2).display(0), 0);
    Check.due("display(0) of 0.5", holding(1.0, 500, 1, 2).display(0), 0x3F000000);
    // the least pressure above 0.0: seven steps that each leave a hundred-thousandth
    LeakCarousel x = Told.withHeads(8);
    Runs.setPressure(x, 0, 1.0);
    x.add(false, 99999, 100);
    x.run(8);
    double least = Runs.decayed(1.0, 99999, 100, 7);
    Check.dueTrue("it is above 0.0", least > 0.0 && least < 1.0e-34);
    Check.dueNumber("gauge(0, 3)", x.gauge(0, 3), least);
    Check.due("display(0) of the least", x.display(0), Float.floatToRawIntBits((float) least));
  }

  /** "the double is converted to a float": to the nearest, and to the even one of two. */
  private static void promise18RoundsToTheNearest() {
    double half = 0x1p-24;
    double[] fillings = {1.0 + half, Math.nextDown(1.0 + half), Math.nextUp(1.0 + half), 1.0 + 3 * half,
      Math.nextDown(1.0 + 3 * half), Math.nextDown(1000.0), Math.nextUp(1.0), Math.nextDown(2.0), Math.nextUp(512.0)};
    int[] due = {0x3F800000, 0x3F800000, 0x3F800001, 0x3F800002, 0x3F800001, 0x447A0000, 0x3F800000, 0x40000000,
      0x44000000};
    for (int i = 0; i < fillings.length; i++) {
      Check.due("display(0) of " + fillings[i], holding(fillings[i], 0, 1, 1).display(0), due[i]);
    }
  }

  /** "UNKNOWN; NONE if the head is empty" */
  private static void promise18Empty() {
    LeakCarousel x = Told.withParts(1);
    Check.due("display(0) at first", x.display(0), LeakCarousel.NONE);
    x.run(5);
    Check.due("display(0) behind its test", x.display(0), LeakCarousel.NONE);
    Check.due("display(3)", x.display(3), LeakCarousel.NONE);
    Check.due("display(4)", x.display(4), LeakCarousel.UNKNOWN);
    Check.due("display(-1)", x.display(-1), LeakCarousel.UNKNOWN);
  }

  // ---- promise 19: part

  private static void promise19WhatFrom0To8() {
    LeakCarousel x = Told.busy();
    int none = LeakCarousel.NONE;
    int[][] due = {
      {0, 60, 100, Runs.ON_HEAD, 1, 1, 0, none, none},
      {0, 900, 1, Runs.REJECTED, 1, 0, 1, 1, none},
      {0, 20, 10, Runs.ACCEPTED, 1, 0, 0, none, none},
      {0, 21, 10, Runs.ON_HEAD, 0, 0, none, none, none},
      {0, 22, 10, Runs.WAITING, 0, 0, none, none, 0}};
    for (int part = 0; part < 5; part++) {
      for (int what = 0; what <= 8; what++) {
        Check.due("part(" + part + ", " + what + ")", x.part(part, what), due[part][what]);
      }
      Check.due("part(part, 9)", x.part(part, 9), LeakCarousel.BAD_VALUE);
      for (int what : FAR) {
        Check.due("part(part, " + what + ")", x.part(part, what), LeakCarousel.BAD_VALUE);
      }
    }
  }

  private static void promise19UnknownAheadOfBadValue() {
    LeakCarousel x = Told.busy();
    int[] parts = {-1, 5, 60, Integer.MIN_VALUE, Integer.MAX_VALUE};
    for (int part : parts) {
      Check.due("part(" + part + ", 9)", x.part(part, 9), LeakCarousel.UNKNOWN);
      Check.due("part(" + part + ", -1)", x.part(part, -1), LeakCarousel.UNKNOWN);
      Check.due("part(" + part + ", 8)", x.part(part, 8), LeakCarousel.UNKNOWN);
    }
  }

  /** "6 for the head of its latest test (NONE without one)": the head 0 is not none. */
  private static void promise19NoneWithoutATest() {
    LeakCarousel x = Told.withParts(1);
    Check.due("waiting", x.part(0, 6), LeakCarousel.NONE);
    x.run(4);
    Check.due("on the head 0", x.part(0, 6), LeakCarousel.NONE);
    Check.due("its tests", x.part(0, 4), 0);
    x.run(1);
    Check.due("tested", x.part(0, 6), 0);
    Check.due("its tests", x.part(0, 4), 1);
    LeakCarousel y = Told.withHeads(8);
    y.run(7);
    y.add(true, 0, 1);
    y.run(9);
    Check.due("tested on the last head", y.part(0, 6), 7);
  }

  /** "7 for the cause for which it was rejected (NONE if it is not rejected)" */
  private static void promise19CausesFrom1To5() {
    LeakCarousel x = everyCause();
    for (int part = 0; part < 5; part++) {
      Check.due("part(" + part + ", 7)", x.part(part, 7), part + 1);
      Check.due("part(" + part + ", 3)", x.part(part, 3), Runs.REJECTED);
      Check.due("part(" + part + ", 8)", x.part(part, 8), LeakCarousel.NONE);
    }
    Check.due("the accepted one", x.part(5, 7), LeakCarousel.NONE);
    Check.due("the one on a head", x.part(6, 7), LeakCarousel.NONE);
    Check.due("the waiting one", x.part(7, 7), LeakCarousel.NONE);
    Check.due("one that is to be retested", Told.busy().part(0, 7), LeakCarousel.NONE);
  }

  /** The part i is rejected for the cause i + 1; then one accepted, one on a head, one waiting. */
  private static LeakCarousel everyCause() {
    LeakCarousel x = Told.withHeads(2);
    Runs.read(x, "v900/1;v200/100;v50/100");
    x.run(14);
    x.setInterval(1);
    x.add(false, 0, 1);
    x.run(10);
    x.add(false, 0, 1);
    Runs.perform(x, "stop");
    x.setInterval(99);
    x.add(false, 0, 1);
    x.run(4);
    x.add(true, 0, 1);
    x.run(1);
    x.add(true, 0, 1);
    return x;
  }

  /** "8 for its place in the row of those that wait, from 0 (NONE if it does not wait)" */
  private static void promise19PlaceInTheRow() {
    LeakCarousel x = Told.full();
    Check.due("part(0, 8)", x.part(0, 8), 0);
    Check.due("part(59, 8)", x.part(59, 8), 59);
    x.run(1);
    Check.due("part(0, 8) on a head", x.part(0, 8), LeakCarousel.NONE);
    Check.due("part(1, 8)", x.part(1, 8), 0);
    Check.due("part(59, 8)", x.part(59, 8), 58);
    x.run(4);
    Check.due("part(0, 8) accepted", x.part(0, 8), LeakCarousel.NONE);
    Runs.perform(x, "stop");
    Check.due("part(59, 8) rejected", x.part(59, 8), LeakCarousel.NONE);
  }

  // ---- promise 20: fits, "UNKNOWN (part or head)"

  private static void promise20PartOrHead() {
    LeakCarousel x = Told.busy();
    Check.due("both are there", x.fits(4, 2), 0);
    Check.due("no such part", x.fits(5, 2), LeakCarousel.UNKNOWN);
    Check.due("no such head", x.fits(4, 3), LeakCarousel.UNKNOWN);
    Check.due("neither", x.fits(5, 3), LeakCarousel.UNKNOWN);
    Check.due("no such part", x.fits(-1, 0), LeakCarousel.UNKNOWN);
    Check.due("no such head", x.fits(0, -1), LeakCarousel.UNKNOWN);
    for (int far : FAR) {
      Check.due("fits(" + far + ", 0)", x.fits(far, 0), LeakCarousel.UNKNOWN);
      Check.due("fits(0, " + far + ")", x.fits(0, far), LeakCarousel.UNKNOWN);
      Check.due("fits(" + far + ", far)", x.fits(far, far), LeakCarousel.UNKNOWN);
    }
  }

  private static void promise20EveryFixture() {
    LeakCarousel x = Told.withParts(2);
    int[][] due = {{1, 1}, {1, 0}, {0, 1}};
    for (int fixture = 2; fixture >= 0; fixture--) {
      x.equip(3, 0, fixture);
      Check.due("a valve in " + fixture, x.fits(0, 3), due[fixture][0]);
      Check.due("a pipe in " + fixture, x.fits(1, 3), due[fixture][1]);
    }
  }

  /** "Returns 1 if the fixture of the head takes the part": whatever its state or its latest head is. */
  private static void promise20ByTheFixtureAlone() {
    LeakCarousel x = Told.busy();
    for (int part = 0; part < 5; part++) {
      Check.due("fits(part, 0)", x.fits(part, 0), 1);
      Check.due("fits(part, 1)", x.fits(part, 1), 1);
      Check.due("fits(part, 2)", x.fits(part, 2), 0);
    }
    x.equip(0, 0, 2);
    Check.due("the part on it", x.fits(3, 0), 0);
    LeakCarousel y = everyCause();
    for (int part = 0; part < 8; part++) {
      Check.due("fits(part, 0)", y.fits(part, 0), 1);
    }
  }

  // ---- promise 21: value

  /** "a NaN if there is no such part, or it had no test" */
  private static void promise21NoTest() {
    LeakCarousel x = Told.withParts(1);
    Check.dueNaN("value(0) waiting", x.value(0));
    x.run(4);
    Check.dueNaN("value(0) on a head", x.value(0));
    Runs.perform(x, "clear");
    Check.dueNaN("value(0) behind clear", x.value(0));
    Runs.perform(x, "stop");
    Check.dueNaN("value(0) rejected without a test", x.value(0));
    Check.dueNaN("value(1)", x.value(1));
  }

  private static void promise21ValueOf0IsNoNaN() {
    LeakCarousel x = Told.withParts(1);
    x.run(5);
    Check.dueNumber("value(0)", x.value(0), 0.0);
  }

  /** "Tells the value of the latest test of a part": also while it waits or is tested anew. */
  private static void promise21LatestTest() {
    LeakCarousel x = Told.withHeads(2);
    x.add(false, 50, 100);
    x.run(3);
    Check.dueNumber("the first test", x.value(0), 25.0);
    Runs.setPressure(x, 0, 410.0);
    x.run(1);
    Check.dueNumber("on the next head", x.value(0), 25.0);
    x.run(2);
    double drop = 410.0 - (410.0 - 410.0 * 50 / (1000.0 * 100));
    Check.dueNumber("the second test", x.value(0), drop * 100 / 1);
    Runs.perform(x, "stop");
    Check.dueNumber("behind stop", x.value(0), drop * 100 / 1);
  }

  // ---- promise 22: foretold

  private static void promise22PresentFillingPressure() {
    double[] fillings = {1.0, 1000.0, 499.999};
    for (double filling : fillings) {
      LeakCarousel x = Told.withHeads(3);
      x.add(false, 33, 10);
      x.run(2);
      Runs.setPressure(x, 0, filling);
      double due = (filling - Runs.decayed(filling, 33, 10, 2)) * 10 / 2 * 1.0 * 1.0;
      Check.dueNumber("foretold(0, 0) of " + filling, x.foretold(0, 0), due);
    }
  }

  private static void promise22PresentGainAndFactor() {
    LeakCarousel x = Told.withHeads(2);
    x.equip(0, 1000, 0);
    x.add(false, 10, 1);
    x.run(3);
    Check.dueNumber("a worn gain", x.foretold(0, 0), 5.0 * 0.999);
    x.calibrate(0, 250);
    double gain = x.gauge(0, 0);
    double factor = x.gauge(0, 1);
    Check.dueTrue("another factor", factor != 1.0);
    Check.dueNumber("calibrated", x.foretold(0, 0), 5.0 * gain * factor);
    Check.dueNumber("the other head", x.foretold(0, 1), 5.0);
  }

  /** "also if it does not fit, or is not waiting" */
  private static void promise22AlsoIfItDoesNotFit() {
    LeakCarousel x = Told.withHeads(2);
    x.equip(0, 0, 2);
    x.add(false, 10, 1);
    Check.due("fits(0, 0)", x.fits(0, 0), 0);
    Check.dueNumber("foretold(0, 0)", x.foretold(0, 0), 5.0);
  }

  private static void promise22EveryState() {
    LeakCarousel x = Told.busy();
    int[][] parts = {{60, 100}, {900, 1}, {20, 10}, {21, 10}, {22, 10}};
    for (int part = 0; part < 5; part++) {
      double drop = 400.0 - Runs.decayed(400.0, parts[part][0], parts[part][1], 2);
      for (int head = 0; head < 3; head++) {
        double due = drop * parts[part][1] / 2 * x.gauge(head, 0) * x.gauge(head, 1);
        Check.dueNumber("foretold(" + part + ", " + head + ")", x.foretold(part, head), due);
      }
    }
    Check.dueNaN("no such part", x.foretold(5, 0));
    Check.dueNaN("no such head", x.foretold(0, 3));
    Check.dueNaN("neither", x.foretold(5, 3));
  }

  /** "its pressure as told under STEPS": never below 0.0. */
  private static void promise22EndsOfLeakAndVolume() {
    int[][] parts = {{0, 1}, {0, 999}, {1, 999}, {99999, 999}, {99999, 1}, {1000, 1}, {1001, 1}, {99999, 100}};
    for (int heads = 2; heads <= 8; heads += 6) {
      LeakCarousel x = Told.withHeads(heads);
      Runs.setPressure(x, 0, 1000.0);
      for (int i = 0; i < parts.length; i++) {
        x.add(i % 2 == 0, parts[i][0], parts[i][1]);
        double drop = 1000.0 - Runs.decayed(1000.0, parts[i][0], parts[i][1], heads - 1);
        double due = drop * parts[i][1] / (heads - 1);
        Check.dueNumber("foretold(" + i + ", 1) of " + heads, x.foretold(i, 1), due);
      }
    }
    LeakCarousel x = Told.withHeads(2);
    x.add(false, 99999, 1);
    Check.dueNumber("all of the pressure", x.foretold(0, 0), 500.0);
  }

  private static void promise22ChangesNothing() {
    String state = Told.state(Told::busy);
    Told.Made told = Told.behind(Told::busy, x -> {
      x.foretold(0, 0);
      x.foretold(4, 2);
      return 0;
    });
    Check.dueWords("the state behind foretold", Told.state(told), state);
  }

  // ---- promise 23: pressureBits

  private static void promise23WhatFrom0To2() {
    LeakCarousel x = Told.busy();
    Check.due("pressureBits(0)", x.pressureBits(0), Double.doubleToRawLongBits(400.0));
    Check.due("pressureBits(1)", x.pressureBits(1), Double.doubleToRawLongBits(19.0));
    Check.due("pressureBits(2)", x.pressureBits(2), Double.doubleToRawLongBits(31.0));
    Check.due("pressureBits(3)", x.pressureBits(3), LeakCarousel.BAD_VALUE);
    for (int what : FAR) {
      Check.due("pressureBits(" + what + ")", x.pressureBits(what), LeakCarousel.BAD_VALUE);
    }
  }

  private static void promise23BitsAtTheEnds() {
    LeakCarousel x = new LeakCarousel();
    Runs.setPressure(x, 0, 1.0);
    Runs.setPressure(x, 1, 0.0);
    Runs.setPressure(x, 2, 1000000.0);
    Check.due("1.0", x.pressureBits(0), 0x3FF0000000000000L);
    Check.due("0.0", x.pressureBits(1), 0L);
    Check.due("1000000.0", x.pressureBits(2), 0x412E848000000000L);
    Runs.setPressure(x, 0, 1000.0);
    x.setPressure(1, 1L);
    Check.due("1000.0", x.pressureBits(0), 0x408F400000000000L);
    Check.due("the least double", x.pressureBits(1), 1L);
  }

  // ---- promise 24: trace

  /** "0 for the one with which it was filled" */
  private static void promise24StepOf0() {
    LeakCarousel x = Told.withParts(1);
    Check.dueNaN("ahead of the step that fills it", x.trace(0, 0));
    x.run(1);
    Check.dueNumber("trace(0, 0)", x.trace(0, 0), 500.0);
    Check.dueNaN("trace(0, 1)", x.trace(0, 1));
    Runs.setPressure(x, 0, 1.0);
    Check.dueNumber("its own filling pressure", x.trace(0, 0), 500.0);
  }

  /** "1 for that behind the next step, and so on"; "a NaN if ... there are not so many" */
  private static void promise24LastStep() {
    LeakCarousel x = new LeakCarousel();
    x.add(false, 100, 1);
    double[] due = {500.0, 450.0, 450.0 - 450.0 * 100 / 1000.0, Runs.decayed(500.0, 100, 1, 3)};
    for (int steps = 1; steps <= 4; steps++) {
      x.run(1);
      for (int step = 0; step < 10; step++) {
        Check.dueNumber("trace(0, " + step + ")", x.trace(0, step), step < steps ? due[step] : Double.NaN);
      }
      Check.dueNaN("trace(0, the greatest int)", x.trace(0, Integer.MAX_VALUE));
      Check.dueNaN("trace(0, 256)", x.trace(0, 256));
      Check.dueNaN("trace(0, 65536)", x.trace(0, 65536));
    }
    x.run(1);
    Check.dueNaN("trace(0, 0) behind its test", x.trace(0, 0));
  }

  private static void promise24NegativeStep() {
    LeakCarousel x = Told.busy();
    int[] negative = {-1, -2, -256, Integer.MIN_VALUE + 1, Integer.MIN_VALUE};
    for (int step : negative) {
      for (int head = -1; head <= 3; head++) {
        Check.dueNaN("trace(" + head + ", " + step + ")", x.trace(head, step));
      }
    }
  }

  private static void promise24EmptyHead() {
    LeakCarousel x = Told.busy();
    for (int step = -1; step <= 8; step++) {
      Check.dueNaN("trace(2, " + step + ")", x.trace(2, step));
    }
    Check.dueNumber("trace(1, 2)", x.trace(1, 2), Runs.decayed(400.0, 60, 100, 2));
    Runs.perform(x, "clear");
    for (int head = 0; head < 3; head++) {
      Check.dueNaN("trace behind clear", x.trace(head, 0));
    }
  }

  /** A part on one of n heads leaks in n - 1 steps at most. */
  private static void promise24FewestAndMostHeads() {
    for (int heads = 2; heads <= 8; heads++) {
      LeakCarousel x = Told.withHeads(heads);
      x.add(true, 7, 3);
      x.run(heads);
      double last = Runs.decayed(500.0, 7, 3, heads - 1);
      Check.dueNumber("the last one of " + heads, x.trace(0, heads - 1), last);
      Check.dueNumber("gauge(0, 3)", x.gauge(0, 3), last);
      Check.dueNaN("one more", x.trace(0, heads));
      double foretold = x.foretold(0, 0);
      x.run(1);
      Check.dueNumber("value(0)", x.value(0), (500.0 - last) * 3 / (heads - 1));
      Check.dueNumber("value(0)", x.value(0), foretold);
    }
  }

  /** The head that comes round is filled anew, and its pressures begin again. */
  private static void promise24FilledAnew() {
    LeakCarousel x = Told.withHeads(2);
    x.add(false, 10, 1);
    x.add(false, 0, 1);
    x.add(false, 20, 1);
    x.run(2);
    Check.dueNumber("trace(0, 1)", x.trace(0, 1), 495.0);
    x.run(1);
    Check.dueNumber("trace(0, 0)", x.trace(0, 0), 500.0);
    Check.dueNaN("trace(0, 1)", x.trace(0, 1));
    x.run(1);
    Check.dueNumber("trace(0, 1)", x.trace(0, 1), 490.0);
  }

  // ---- promise 25: count

  private static void promise25WhatFrom0To16() {
    LeakCarousel x = Told.busy();
    int[] due = {3, 7, 5, 1, 2, 1, 1, 3, 1, 7, 1, 0, 0, 0, 0, 4, 6};
    for (int what = 0; what < due.length; what++) {
      Check.due("count(" + what + ")", x.count(what), due[what]);
    }
    Check.due("count(17)", x.count(17), LeakCarousel.BAD_VALUE);
    for (int what : FAR) {
      Check.due("count(" + what + ")", x.count(what), LeakCarousel.BAD_VALUE);
    }
  }

  private static void promise25EmptyAndFull() {
    LeakCarousel none = new LeakCarousel();
    int[] dueOfNone = {4, 0, 0, 0, 0, 0, 0, 0, 0, 20, 0, 0, 0, 0, 0, 0, 0};
    LeakCarousel full = Told.full();
    for (int i = 5; i <= 60; i++) {
      full.type('x');
    }
    int[] dueOfFull = {4, 0, 60, 60, 0, 0, 0, 0, 0, 20, 0, 0, 0, 0, 0, 4, 60};
    for (int what = 0; what <= 16; what++) {
      Check.due("count(" + what + ") of none", none.count(what), dueOfNone[what]);
      Check.due("count(" + what + ") of sixty", full.count(what), dueOfFull[what]);
    }
  }

  /** "10 to 14 for parts rejected for the causes 1 to 5" */
  private static void promise25EveryCause() {
    LeakCarousel x = everyCause();
    for (int what = 10; what <= 14; what++) {
      Check.due("count(" + what + ")", x.count(what), 1);
    }
    Check.due("count(6)", x.count(6), 5);
    Check.due("count(5)", x.count(5), 1);
    Check.due("count(4)", x.count(4), 1);
    Check.due("count(3)", x.count(3), 1);
    Check.due("count(8)", x.count(8), 4);
    x.build(2);
    for (int what = 1; what <= 8; what++) {
      Check.due("count(" + what + ") behind build", x.count(what), 0);
    }
    for (int what = 10; what <= 14; what++) {
      Check.due("count(" + what + ") behind build", x.count(what), 0);
    }
  }

  private static void tellingIsNoAct() {
    String all = Told.all(Told::busy);
    Told.Made told = Told.behind(Told::busy, x -> {
      for (int i = -1; i <= 17; i++) {
        x.head(i % 4, i);
        x.gauge(i % 4, i);
        x.display(i);
        x.part(i % 6, i);
        x.fits(i % 6, i % 4);
        x.value(i);
        x.pressureBits(i);
        x.trace(i % 4, i);
        x.count(i);
      }
      return 0;
    });
    Check.dueWords("all behind what was told", Told.all(told), all);
  }
}
