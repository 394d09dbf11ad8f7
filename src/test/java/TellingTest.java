/** Promises 16 to 25: head, gauge, display, part, fits, value, foretold, pressureBits, trace, count. */
public final class TellingTest {
  private static final int[] FAR = {Integer.MIN_VALUE, -5, -1, Integer.MAX_VALUE};

  public static void main(String[] args) {
    promise16Head();
    promise17Gauge();
    promise18Display();
    promise18DisplayOfSmallPressures();
    promise19Part();
    promise20Fits();
    promise21Value();
    promise22Foretold();
    promise23PressureBits();
    promise24Trace();
    promise25Count();
    tellingChangesNothing();
    Check.finish();
  }

  /** Two tests on head 0 (one retest, one accepted), a burst on head 1, parts on heads 0 and 1. */
  private static Renewed worked() {
    Renewed x = new Renewed();
    x.build(3);
    x.equip(0, 500, 1);
    x.equip(2, 7, 2);
    Runs.read(x, "v50/100;v900/1;v20/10;v21/10;v22/10");
    x.run(7);
    return x;
  }

  private static void promise16Head() {
    Renewed x = worked();
    int[][] due = {
      {500, 1, 2, 3, 2, 1, 0, 1, 2},
      {0, 0, 1, 0, 1, 0, 1, 0, 0},
      {7, 2, 0, LeakCarousel.NONE, 0, 0, 0, 0, 1}};
    for (int head = 0; head < 3; head++) {
      for (int what = 0; what <= 8; what++) {
        Check.due("head(" + head + ", " + what + ")", x.head(head, what), due[head][what]);
      }
      Check.due("head(head, 9)", x.head(head, 9), LeakCarousel.BAD_VALUE);
      for (int what : FAR) {
        Check.due("head(head, " + what + ")", x.head(head, what), LeakCarousel.BAD_VALUE);
      }
    }
    Check.due("head(3, 0)", x.head(3, 0), LeakCarousel.UNKNOWN);
    Check.due("head(3, 9)", x.head(3, 9), LeakCarousel.UNKNOWN);
    for (int head : FAR) {
      Check.due("head(" + head + ", 0)", x.head(head, 0), LeakCarousel.UNKNOWN);
      Check.due("head(" + head + ", -1)", x.head(head, -1), LeakCarousel.UNKNOWN);
    }
    x.build(8);
    Check.due("head(7, 8)", x.head(7, 8), 7);
    Check.due("head(8, 8)", x.head(8, 8), LeakCarousel.UNKNOWN);
    x.run(3);
    Check.due("head(2, 8)", x.head(2, 8), 7);
    Check.due("head(3, 8)", x.head(3, 8), 0);
    Check.due("head(7, 8)", x.head(7, 8), 4);
  }

  private static void promise17Gauge() {
    Renewed x = worked();
    double worn = 1.0 * (1.0 - 500 / 1000000.0);
    Check.dueNumber("gauge(0, 0)", x.gauge(0, 0), worn * (1.0 - 500 / 1000000.0));
    Check.dueNumber("gauge(2, 0)", x.gauge(2, 0), 1.0);
    Check.dueNumber("gauge(0, 1)", x.gauge(0, 1), 1.0);
    Check.dueNumber("gauge(0, 2)", x.gauge(0, 2), 500.0);
    Check.dueNumber("gauge(0, 3)", x.gauge(0, 3), 500.0);
    Check.dueNumber("gauge(1, 2)", x.gauge(1, 2), 500.0);
    Check.dueNumber("gauge(1, 3)", x.gauge(1, 3), Runs.decayed(500.0, 50, 100, 2));
    Check.dueNaN("gauge(2, 2)", x.gauge(2, 2));
    Check.dueNaN("gauge(2, 3)", x.gauge(2, 3));
    Check.dueNaN("gauge(3, 0)", x.gauge(3, 0));
    Check.dueNaN("gauge(0, 4)", x.gauge(0, 4));
    Check.dueNaN("gauge(2, 4)", x.gauge(2, 4));
    for (int far : FAR) {
      Check.dueNaN("gauge(" + far + ", 0)", x.gauge(far, 0));
      Check.dueNaN("gauge(0, " + far + ")", x.gauge(0, far));
      Check.dueNaN("gauge(2, " + far + ")", x.gauge(2, far));
    }
  }

  private static void promise18Display() {
    Renewed x = worked();
    Check.due("display(0)", x.display(0), Float.floatToRawIntBits(500.0f));
    double pressure = Runs.decayed(500.0, 50, 100, 2);
    Check.due("display(1)", x.display(1), Float.floatToRawIntBits((float) pressure));
    Check.due("display(2)", x.display(2), LeakCarousel.NONE);
    Check.due("display(3)", x.display(3), LeakCarousel.UNKNOWN);
    for (int far : FAR) {
      Check.due("display(" + far + ")", x.display(far), LeakCarousel.UNKNOWN);
    }
    for (int i = 0; i < 500; i++) {
      double filling = 1.0 + (i * 7919 % 9990) / 10.0 + i / 1.0e9;
      Renewed y = new Renewed();
      Runs.setPressure(y, 0, filling);
      y.add(false, i * 131 % 3000, 1 + i % 5);
      for (int step = 0; step < 4; step++) {
        y.run(1);
        double now = Runs.decayed(filling, i * 131 % 3000, 1 + i % 5, step);
        Check.due("display(0)", y.display(0), Float.floatToRawIntBits((float) now));
      }
    }
    // a double just below a float's rounding point, on it (to the even one) and above it
    double[] ties = {1.0 + 0x1p-24, Math.nextUp(1.0 + 0x1p-24), 1.0 + 3 * 0x1p-24, 999.99999, 1000.0, 1.0,
      Math.nextDown(512.0), Math.nextDown(1.0 + 3 * 0x1p-24)};
    for (double filling : ties) {
      Renewed y = new Renewed();
      Runs.setPressure(y, 0, filling);
      y.add(false, 0, 1);
      y.run(1);
      Check.due("display(0)", y.display(0), Float.floatToRawIntBits((float) filling));
    }
  }

  private static void promise18DisplayOfSmallPressures() {
    int[][] parts = {{99999, 100}, {99999, 1}, {99998, 100}, {999, 1}, {1000, 1}, {9000, 9}, {49000, 49}, {7000, 7}};
    for (int[] part : parts) {
      Renewed x = new Renewed();
      x.build(8);
      Runs.setPressure(x, 0, 1.0 + 1.0 / 3);
      x.add(false, part[0], part[1]);
      for (int step = 0; step < 8; step++) {
        x.run(1);
        double now = Runs.decayed(1.0 + 1.0 / 3, part[0], part[1], step);
        Check.dueNumber("gauge(0, 3)", x.gauge(0, 3), now);
        Check.due("display(0) of " + now, x.display(0), Float.floatToRawIntBits((float) now));
      }
    }
  }

  private static void promise19Part() {
    Renewed x = worked();
    int none = LeakCarousel.NONE;
    int[][] due = {
      {0, 50, 100, Runs.ON_HEAD, 1, 1, 0, none, none},
      {0, 900, 1, Runs.REJECTED, 1, 0, 1, 1, none},
      {0, 20, 10, Runs.ACCEPTED, 1, 0, 0, none, none},
      {0, 21, 10, Runs.ON_HEAD, 0, 0, none, none, none},
      {0, 22, 10, Runs.WAITING, 0, 0, none, none, 0}};
    for (int part = 0; part < 5; part++) {
      for (int what = 0; what <= 8; what++) {
        Check.due("part(" + part + ", " + what + ")", x.part(part, what), due[part][what]);
      }
      Check.due("part(part, 9)", x.part(part, 9), LeakCarousel.BAD_VALUE);
      for (int what : FAR) {
        Check.due("part(part, " + what + ")", x.part(part, what), LeakCarousel.BAD_VALUE);
      }
    }
    Check.due("part(5, 0)", x.part(5, 0), LeakCarousel.UNKNOWN);
    Check.due("part(5, 9)", x.part(5, 9), LeakCarousel.UNKNOWN);
    Check.due("part(60, 0)", x.part(60, 0), LeakCarousel.UNKNOWN);
    for (int part : FAR) {
      Check.due("part(" + part + ", 0)", x.part(part, 0), LeakCarousel.UNKNOWN);
      Check.due("part(" + part + ", -1)", x.part(part, -1), LeakCarousel.UNKNOWN);
    }
    x.add(true, 1, 1);
    Check.due("part(5, 0)", x.part(5, 0), 1);
  }

  private static void promise20Fits() {
    Renewed x = new Renewed();
    x.equip(1, 0, 1);
    x.equip(2, 0, 2);
    x.add(false, 1, 1);
    x.add(true, 1, 1);
    int[] valve = {1, 1, 0, 1};
    int[] pipe = {1, 0, 1, 1};
    for (int head = 0; head < 4; head++) {
      Check.due("fits(0, " + head + ")", x.fits(0, head), valve[head]);
      Check.due("fits(1, " + head + ")", x.fits(1, head), pipe[head]);
    }
    Check.due("fits(2, 0)", x.fits(2, 0), LeakCarousel.UNKNOWN);
    Check.due("fits(0, 4)", x.fits(0, 4), LeakCarousel.UNKNOWN);
    Check.due("fits(2, 4)", x.fits(2, 4), LeakCarousel.UNKNOWN);
    for (int far : FAR) {
      Check.due("fits(" + far + ", 0)", x.fits(far, 0), LeakCarousel.UNKNOWN);
      Check.due("fits(0, " + far + ")", x.fits(0, far), LeakCarousel.UNKNOWN);
    }
    x.run(5);
    Check.due("the latest head does not count", x.fits(0, 0), 1);
  }

  private static void promise21Value() {
    Renewed x = worked();
    double worn = 1.0 * (1.0 - 500 / 1000000.0);
    Check.dueNumber("value(0)", x.value(0), (500.0 - Runs.decayed(500.0, 50, 100, 2)) * 100 / 2 * 1.0 * 1.0);
    Check.dueNumber("value(1)", x.value(1), (500.0 - Runs.decayed(500.0, 900, 1, 2)) * 1 / 2 * 1.0 * 1.0);
    Check.dueNumber("value(2)", x.value(2), (500.0 - Runs.decayed(500.0, 20, 10, 2)) * 10 / 2 * worn * 1.0);
    Check.dueNaN("value(3) on a head", x.value(3));
    Check.dueNaN("value(4) waiting", x.value(4));
    Check.dueNaN("value(5)", x.value(5));
    for (int far : FAR) {
      Check.dueNaN("value(" + far + ")", x.value(far));
    }
    double first = x.value(0);
    x.run(3);
    Check.dueNumber("of the latest test", x.value(0), first);
    Check.due("of the latest test", x.part(0, 4), 2);
    x.equip(0, 0, 0);
    x.calibrate(2, 9);
    x.run(1);
    Check.due("part(0, 5)", x.part(0, 5), 2);
    x.build(2);
    x.add(false, 0, 1);
    x.run(3);
    Check.dueNumber("a value of 0.0", x.value(0), 0.0);
  }

  private static void promise22Foretold() {
    Renewed x = worked();
    x.calibrate(2, 77);
    Runs.setPressure(x, 0, 333.0);
    int[][] parts = {{50, 100}, {900, 1}, {20, 10}, {21, 10}, {22, 10}};
    for (int part = 0; part < 5; part++) {
      for (int head = 0; head < 3; head++) {
        double drop = 333.0 - Runs.decayed(333.0, parts[part][0], parts[part][1], 2);
        double due = drop * parts[part][1] / 2 * x.gauge(head, 0) * x.gauge(head, 1);
        Check.dueNumber("foretold(" + part + ", " + head + ")", x.foretold(part, head), due);
      }
    }
    Check.dueNaN("foretold(5, 0)", x.foretold(5, 0));
    Check.dueNaN("foretold(0, 3)", x.foretold(0, 3));
    for (int far : FAR) {
      Check.dueNaN("foretold(" + far + ", 0)", x.foretold(far, 0));
      Check.dueNaN("foretold(0, " + far + ")", x.foretold(0, far));
    }
    x.add(false, 99999, 2);
    Check.dueNumber("foretold of a burst", x.foretold(5, 1), 333.0 * 2 / 2 * 1.0 * 1.0);
    for (int heads = 2; heads <= 8; heads++) {
      Renewed y = new Renewed();
      y.build(heads);
      y.add(true, 123, 45);
      double told = y.foretold(0, 0);
      y.run(heads + 1);
      Check.dueNumber("what was foretold", y.value(0), told);
    }
  }

  private static void promise23PressureBits() {
    Renewed x = new Renewed();
    for (int i = 0; i < 3; i++) {
      x.setPressure(i, Double.doubleToRawLongBits(100.1 + i));
    }
    for (int i = 0; i < 3; i++) {
      Check.due("pressureBits(" + i + ")", x.pressureBits(i), Double.doubleToRawLongBits(100.1 + i));
    }
    Check.due("pressureBits(3)", x.pressureBits(3), LeakCarousel.BAD_VALUE);
    for (int far : FAR) {
      Check.due("pressureBits(" + far + ")", x.pressureBits(far), LeakCarousel.BAD_VALUE);
    }
    x.setPressure(1, 0L);
    Check.due("pressureBits(1)", x.pressureBits(1), 0L);
    x.setPressure(1, 1L);
    Check.due("pressureBits(1)", x.pressureBits(1), 1L);
  }

  private static void promise24Trace() {
    Renewed x = new Renewed();
    x.add(false, 321, 9);
    x.add(true, 999, 1);
    for (int told = 0; told < 4; told++) {
      x.run(1);
      Runs.setPressure(x, 0, 600.0 + told);
      for (int step = 0; step < 9; step++) {
        double due = step <= told ? Runs.decayed(500.0, 321, 9, step) : Double.NaN;
        Check.dueNumber("trace(0, " + step + ")", x.trace(0, step), due);
      }
      Check.dueNumber("trace(0, told)", x.trace(0, told), x.gauge(0, 3));
      Check.dueNaN("trace(3, 0)", x.trace(3, 0));
      Check.dueNaN("trace(4, 0)", x.trace(4, 0));
      for (int far : FAR) {
        Check.dueNaN("trace(0, " + far + ")", x.trace(0, far));
        Check.dueNaN("trace(" + far + ", 0)", x.trace(far, 0));
      }
    }
    Check.dueNumber("trace(1, 0)", x.trace(1, 0), 600.0);
    Check.dueNumber("trace(1, 2)", x.trace(1, 2), Runs.decayed(600.0, 999, 1, 2));
    Check.dueNaN("trace(1, 3)", x.trace(1, 3));
    x.run(1);
    Check.dueNaN("its test has ended", x.trace(0, 0));
    x.build(8);
    x.add(false, 5, 5);
    x.run(8);
    Check.dueNumber("trace(0, 7)", x.trace(0, 7), Runs.decayed(603.0, 5, 5, 7));
    Check.dueNaN("trace(0, 8)", x.trace(0, 8));
  }

  private static void promise25Count() {
    Renewed x = worked();
    int[] due = {3, 7, 5, 1, 2, 1, 1, 3, 1, 20, 1, 0, 0, 0, 0, 4, 35};
    for (int what = 0; what < due.length; what++) {
      Check.due("count(" + what + ")", x.count(what), due[what]);
    }
    Check.due("count(17)", x.count(17), LeakCarousel.BAD_VALUE);
    for (int far : FAR) {
      Check.due("count(" + far + ")", x.count(far), LeakCarousel.BAD_VALUE);
    }
    Renewed y = new Renewed();
    y.build(2);
    y.setInterval(2);
    Runs.read(y, "v900/1;v90/100;p50/100;v1/1;v1/1");
    for (int i = 0; i < 6; i++) {
      Runs.perform(y, "turn");
    }
    Runs.read(y, "v1/1;v1/1");
    int waiting = y.count(3);
    Runs.perform(y, "stop");
    int sum = 0;
    for (int what = 10; what <= 14; what++) {
      sum += y.count(what);
    }
    Check.due("the causes add up", sum, y.count(6));
    Check.due("count(10)", y.count(10), 1);
    Check.due("count(11)", y.count(11), 1);
    Check.due("count(14)", y.count(14), waiting);
    Check.due("the states add up", y.count(3) + y.count(4) + y.count(5) + y.count(6), y.count(2));
    Check.due("the tests add up", y.count(7), y.head(0, 4) + y.head(1, 4));
    Check.due("the retests add up", y.count(8), y.head(0, 7) + y.head(1, 7));
  }

  private static void tellingChangesNothing() {
    Renewed x = worked();
    String told = Runs.stateOf(x);
    int states = x.count(15);
    for (int i = -1; i < 20; i++) {
      x.head(i % 5, i);
      x.gauge(i % 5, i);
      x.display(i);
      x.part(i % 7, i);
      x.fits(i, i);
      x.value(i);
      x.foretold(i, i);
      x.pressureBits(i);
      x.trace(i % 5, i);
      x.count(i);
    }
    Check.dueTrue("nothing changed", told.equals(Runs.stateOf(x)));
    Check.due("count(15)", x.count(15), states);
  }
}
