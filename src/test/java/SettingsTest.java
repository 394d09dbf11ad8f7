/** Promises 1 to 6: the constructor, build, setPressure, setInterval, equip, calibrate. */
public final class SettingsTest {
  private static final long MINUS_ZERO = Long.MIN_VALUE;

  public static void main(String[] args) {
    promise1NewObject();
    promise2Build();
    promise2BuildKeepsSettingsOnly();
    promise2BuildForgetsPartsAndFixtures();
    promise3FillingPressure();
    promise3Limits();
    promise3BitsAreTakenExactly();
    promise4SetInterval();
    promise5Equip();
    promise5EquipUnderAPart();
    promise6Calibrate();
    promise6CalibrateRefused();
    promise6CalibratedValues();
    Check.finish();
  }

  private static void promise1NewObject() {
    Renewed x = new Renewed();
    int[] counts = {4, 0, 0, 0, 0, 0, 0, 0, 0, 20, 0, 0, 0, 0, 0, 0, 0};
    for (int what = 0; what < counts.length; what++) {
      Check.due("count(" + what + ") at first", x.count(what), counts[what]);
    }
    Check.due("pressureBits(0)", x.pressureBits(0), Double.doubleToRawLongBits(500.0));
    Check.due("pressureBits(1)", x.pressureBits(1), Double.doubleToRawLongBits(20.0));
    Check.due("pressureBits(2)", x.pressureBits(2), Double.doubleToRawLongBits(30.0));
    for (int head = 0; head < 4; head++) {
      dueHeadAtFirst(x, head, 4);
    }
    Check.due("head(4, 0)", x.head(4, 0), LeakCarousel.UNKNOWN);
    Check.due("undo()", x.undo(), LeakCarousel.NONE);
    Check.due("restore()", x.restore(), LeakCarousel.NONE);
    Check.due("the constants", LeakCarousel.UNKNOWN, -1);
    Check.due("the constants", LeakCarousel.BAD_VALUE, -2);
    Check.due("the constants", LeakCarousel.FULL, -3);
    Check.due("the constants", LeakCarousel.NOT_POSSIBLE, -4);
    Check.due("the constants", LeakCarousel.NONE, -5);
  }

  private static void dueHeadAtFirst(Renewed x, int head, int heads) {
    int[] told = {0, 0, 0, LeakCarousel.NONE, 0, 0, 0, 0, head};
    for (int what = 0; what < told.length; what++) {
      Check.due("head(" + head + ", " + what + ") of " + heads, x.head(head, what), told[what]);
    }
    Check.dueNumber("gauge(head, 0)", x.gauge(head, 0), 1.0);
    Check.dueNumber("gauge(head, 1)", x.gauge(head, 1), 1.0);
    Check.dueNaN("gauge(head, 2)", x.gauge(head, 2));
    Check.dueNaN("gauge(head, 3)", x.gauge(head, 3));
    Check.due("display(head)", x.display(head), LeakCarousel.NONE);
  }

  private static void promise2Build() {
    Renewed x = new Renewed();
    int[] wrong = {1, 9, 0, -1, Integer.MIN_VALUE, Integer.MAX_VALUE};
    for (int heads : wrong) {
      Runs.dueRefused(x, "build(" + heads + ")", () -> x.build(heads), LeakCarousel.BAD_VALUE);
    }
    for (int heads = 2; heads <= 8; heads++) {
      int many = heads;
      x.build(4);
      x.add(false, 50, 10);
      x.add(true, 50, 10);
      x.run(5);
      Runs.dueAct(x, "build(" + heads + ")", () -> x.build(many), x.count(2));
      for (int head = 0; head < heads; head++) {
        dueHeadAtFirst(x, head, heads);
      }
      Check.due("head(heads, 0)", x.head(heads, 0), LeakCarousel.UNKNOWN);
      Check.due("count(0)", x.count(0), heads);
    }
    Runs.dueAct(x, "build as it is already", () -> x.build(8), 0);
  }

  private static void promise2BuildKeepsSettingsOnly() {
    Renewed x = new Renewed();
    Runs.setPressure(x, 0, 400.0);
    Runs.setPressure(x, 1, 3.0);
    Runs.setPressure(x, 2, 2.0);
    x.setInterval(1);
    x.equip(0, 1000, 0);
    x.calibrate(0, 99);
    Runs.read(x, "v50/10;v20/10;p9/9;v2/2;v50/10");
    x.run(11);
    Runs.perform(x, "stop");
    Check.due("parts counted ahead of build", x.count(6) > 0 && x.count(7) > 0 ? 1 : 0, 1);
    Check.due("build(4)", x.build(4), 5);
    for (int what = 1; what <= 8; what++) {
      Check.due("count(" + what + ") behind build", x.count(what), 0);
    }
    for (int what = 10; what <= 14; what++) {
      Check.due("count(" + what + ") behind build", x.count(what), 0);
    }
    for (int head = 0; head < 4; head++) {
      dueHeadAtFirst(x, head, 4);
    }
    Check.due("count(9) behind build", x.count(9), 1);
    Check.due("pressureBits(0) behind build", x.pressureBits(0), Double.doubleToRawLongBits(400.0));
    Check.due("pressureBits(1) behind build", x.pressureBits(1), Double.doubleToRawLongBits(3.0));
    Check.due("pressureBits(2) behind build", x.pressureBits(2), Double.doubleToRawLongBits(2.0));
    Check.due("part(0, 0) behind build", x.part(0, 0), LeakCarousel.UNKNOWN);
    Check.dueNaN("value(0) behind build", x.value(0));
    Check.due("the text stays", x.count(16), 4);
    Check.due("add behind build", x.add(false, 1, 1), 0);
    Check.due("part(0, 4) behind build", x.part(0, 4), 0);
    Check.due("part(0, 6) behind build", x.part(0, 6), LeakCarousel.NONE);
    Check.due("part(0, 8) behind build", x.part(0, 8), 0);
  }

  private static void promise2BuildForgetsPartsAndFixtures() {
    Renewed x = new Renewed();
    x.equip(1, 3, 2);
    x.equip(3, 0, 1);
    x.add(false, 50, 100);
    x.run(14);
    Check.due("part(0, 5) ahead of build", x.part(0, 5), 2);
    x.build(4);
    for (int head = 0; head < 4; head++) {
      dueHeadAtFirst(x, head, 4);
    }
    int[] told = {1, 3, 4, Runs.WAITING, 0, 0, LeakCarousel.NONE, LeakCarousel.NONE, 0};
    x.add(true, 3, 4);
    for (int what = 0; what < told.length; what++) {
      Check.due("part(0, " + what + ") behind build", x.part(0, what), told[what]);
    }
    Check.dueNaN("value(0) behind build", x.value(0));
    x.run(1);
    Check.due("the head of its latest test is forgotten", x.head(0, 3), 0);
  }

  private static void promise3FillingPressure() {
    Renewed x = new Renewed();
    double[] right = {1.0, 1000.0, Math.nextUp(1.0), Math.nextDown(1000.0), 500.0, 1.0 / 3.0 + 1.0};
    for (double number : right) {
      long bits = Double.doubleToRawLongBits(number);
      Runs.dueAct(x, "setPressure(0, " + number + ")", () -> x.setPressure(0, bits), 1);
      Check.due("pressureBits(0)", x.pressureBits(0), bits);
      Runs.dueRefused(x, "the same again", () -> x.setPressure(0, bits), LeakCarousel.NONE);
    }
    double[] wrong = {Math.nextDown(1.0), Math.nextUp(1000.0), 0.0, -0.0, -1.0, -500.0,
      Double.MIN_VALUE, Double.MAX_VALUE, Double.POSITIVE_INFINITY, Double.NEGATIVE_INFINITY};
    for (double number : wrong) {
      dueBadBits(x, 0, Double.doubleToRawLongBits(number));
    }
    dueNoNumbers(x, 0);
  }

  private static void dueBadBits(Renewed x, int what, long bits) {
    String call = "setPressure(" + what + ", " + bits + ")";
    Runs.dueRefused(x, call, () -> x.setPressure(what, bits), LeakCarousel.BAD_VALUE);
  }

  private static void dueNoNumbers(Renewed x, int what) {
    long[] bits = {0x7FF8000000000000L, 0x7FF0000000000001L, 0x7FFFFFFFFFFFFFFFL,
      0xFFF8000000000000L, 0xFFF0000000000001L, -1L, MINUS_ZERO};
    for (long wrong : bits) {
      dueBadBits(x, what, wrong);
    }
  }

  private static void promise3Limits() {
    for (int what = 1; what <= 2; what++) {
      Renewed x = new Renewed();
      int limit = what;
      double[] right = {0.0, 1000000.0, Double.MIN_VALUE, Math.nextDown(1000000.0), Double.MIN_NORMAL, 25.0};
      for (double number : right) {
        long bits = Double.doubleToRawLongBits(number);
        Runs.dueAct(x, "setPressure(" + what + ", " + number + ")", () -> x.setPressure(limit, bits), 1);
        Check.due("pressureBits", x.pressureBits(what), bits);
        Runs.dueRefused(x, "the same again", () -> x.setPressure(limit, bits), LeakCarousel.NONE);
      }
      double[] wrong = {Math.nextUp(1000000.0), -0.0, -Double.MIN_VALUE, -20.0, Double.POSITIVE_INFINITY};
      for (double number : wrong) {
        dueBadBits(x, what, Double.doubleToRawLongBits(number));
      }
      dueNoNumbers(x, what);
      // -0.0 is refused even where 0.0 stands already
      x.setPressure(what, 0L);
      dueBadBits(x, what, MINUS_ZERO);
    }
    Renewed x = new Renewed();
    int[] wrong = {-1, 3, Integer.MIN_VALUE, Integer.MAX_VALUE};
    for (int what : wrong) {
      dueBadBits(x, what, Double.doubleToRawLongBits(500.0));
      dueBadBits(x, what, Double.doubleToRawLongBits(20.0));
    }
    Check.due("the upper limit below the lower one", Runs.setPressure(x, 2, 1.0), 1);
  }

  /** The number behind the bits is seen by the pressure that fills, and by values at a limit. */
  private static void promise3BitsAreTakenExactly() {
    for (int i = 0; i < 200; i++) {
      double filling = 1.0 + 999.0 * (i * 0.61803398875 - (int) (i * 0.61803398875));
      Renewed x = new Renewed();
      Runs.setPressure(x, 0, filling);
      x.add(false, 77, 13);
      x.run(1);
      Check.dueNumber("gauge(0, 2) filled by " + filling, x.gauge(0, 2), filling);
      Check.dueNumber("gauge(0, 3) filled by " + filling, x.gauge(0, 3), filling);
      double value = x.foretold(0, 0);
      Check.due("stands behind its limit", stateAtLimits(filling, value, value), Runs.ACCEPTED);
      double below = Math.nextDown(value);
      Check.due("stands at the upper limit", stateAtLimits(filling, below, value), Runs.WAITING);
      Check.due("stands above both", stateAtLimits(filling, below, below), Runs.REJECTED);
    }
    Check.due("0.0 at 0.0", stateOfTight(0.0), Runs.ACCEPTED);
    Check.due("0.0 at the least double", stateOfTight(Double.MIN_VALUE), Runs.ACCEPTED);
    Check.due("0.0 at the largest limit", stateOfTight(1000000.0), Runs.ACCEPTED);
  }

  private static int stateAtLimits(double filling, double lower, double upper) {
    Renewed x = new Renewed();
    Runs.setPressure(x, 0, filling);
    Runs.setPressure(x, 1, lower);
    Runs.setPressure(x, 2, upper);
    x.add(false, 77, 13);
    x.run(5);
    return x.part(0, 3);
  }

  private static int stateOfTight(double lower) {
    Renewed x = new Renewed();
    Runs.setPressure(x, 2, 0.0);
    Runs.setPressure(x, 1, lower);
    x.add(false, 0, 1);
    x.run(5);
    return x.part(0, 3);
  }

  private static void promise4SetInterval() {
    Renewed x = new Renewed();
    int[] wrong = {0, 100, -1, Integer.MIN_VALUE, Integer.MAX_VALUE};
    for (int tests : wrong) {
      Runs.dueRefused(x, "setInterval(" + tests + ")", () -> x.setInterval(tests), LeakCarousel.BAD_VALUE);
    }
    Runs.dueRefused(x, "setInterval(20)", () -> x.setInterval(20), LeakCarousel.NONE);
    Runs.dueAct(x, "setInterval(1)", () -> x.setInterval(1), 20);
    Runs.dueAct(x, "setInterval(99)", () -> x.setInterval(99), 1);
    Runs.dueRefused(x, "setInterval(99)", () -> x.setInterval(99), LeakCarousel.NONE);
    Check.due("count(9)", x.count(9), 99);
  }

  private static void promise5Equip() {
    Renewed x = new Renewed();
    Runs.dueRefused(x, "equip(4, 0, 1)", () -> x.equip(4, 0, 1), LeakCarousel.UNKNOWN);
    Runs.dueRefused(x, "equip(-1, 0, 1)", () -> x.equip(-1, 0, 1), LeakCarousel.UNKNOWN);
    Runs.dueRefused(x, "equip(4, -1, 9)", () -> x.equip(4, -1, 9), LeakCarousel.UNKNOWN);
    Runs.dueRefused(x, "equip(0, -1, 0)", () -> x.equip(0, -1, 0), LeakCarousel.BAD_VALUE);
    Runs.dueRefused(x, "equip(0, 1001, 0)", () -> x.equip(0, 1001, 0), LeakCarousel.BAD_VALUE);
    Runs.dueRefused(x, "equip(0, 0, -1)", () -> x.equip(0, 0, -1), LeakCarousel.BAD_VALUE);
    Runs.dueRefused(x, "equip(0, 0, 3)", () -> x.equip(0, 0, 3), LeakCarousel.BAD_VALUE);
    Runs.dueRefused(x, "equip(3, 0, 0)", () -> x.equip(3, 0, 0), LeakCarousel.NONE);
    Runs.dueAct(x, "equip(3, 1000, 0)", () -> x.equip(3, 1000, 0), 0);
    Runs.dueAct(x, "equip(3, 1000, 2)", () -> x.equip(3, 1000, 2), 1000);
    Runs.dueRefused(x, "equip(3, 1000, 2)", () -> x.equip(3, 1000, 2), LeakCarousel.NONE);
    Runs.dueAct(x, "equip(3, 1, 2)", () -> x.equip(3, 1, 2), 1000);
    Check.due("head(3, 0)", x.head(3, 0), 1);
    Check.due("head(3, 1)", x.head(3, 1), 2);
    Check.due("head(2, 0)", x.head(2, 0), 0);
    Check.due("head(2, 1)", x.head(2, 1), 0);
    x.build(8);
    Runs.dueAct(x, "equip(7, 7, 1)", () -> x.equip(7, 7, 1), 0);
  }

  private static void promise5EquipUnderAPart() {
    Renewed x = new Renewed();
    x.add(true, 44, 10);
    x.run(2);
    Runs.dueAct(x, "equip(0, 9, 1)", () -> x.equip(0, 9, 1), 0);
    Check.due("the part stays", x.head(0, 3), 0);
    Check.due("fits(0, 0)", x.fits(0, 0), 0);
    x.run(3);
    Check.due("its test ends there", x.part(0, 6), 0);
  }

  private static void promise6Calibrate() {
    Renewed x = new Renewed();
    x.equip(1, 1000, 0);
    x.equip(0, 0, 1);
    x.equip(2, 0, 1);
    x.equip(3, 0, 1);
    x.add(true, 2, 10);
    x.add(true, 2, 10);
    x.run(10);
    Check.due("head(1, 2)", x.head(1, 2), 2);
    Check.dueNumber("gauge(1, 0)", x.gauge(1, 0), 1.0 * (1.0 - 1000 / 1000000.0) * (1.0 - 1000 / 1000000.0));
    Check.dueNumber("gauge(1, 1)", x.gauge(1, 1), 1.0);
    double gain = x.gauge(1, 0);
    Runs.dueAct(x, "calibrate(1, 500)", () -> x.calibrate(1, 500), 2);
    double expected = (500.0 - Runs.decayed(500.0, 500, 100, 3)) * 100.0 / 3;
    Check.dueNumber("gauge(1, 1)", x.gauge(1, 1), expected / (expected * gain));
    Check.dueNumber("gauge(1, 0) stays", x.gauge(1, 0), gain);
    Check.due("head(1, 2)", x.head(1, 2), 0);
    Check.due("head(1, 4) stays", x.head(1, 4), 2);
    Runs.dueAct(x, "calibrate again", () -> x.calibrate(1, 500), 0);
    Check.due("count(7) stays", x.count(7), 2);
  }

  private static void promise6CalibrateRefused() {
    Renewed x = new Renewed();
    x.add(false, 1, 1);
    x.run(1);
    Runs.dueRefused(x, "calibrate(-1, 0)", () -> x.calibrate(-1, 0), LeakCarousel.UNKNOWN);
    Runs.dueRefused(x, "calibrate(4, 1)", () -> x.calibrate(4, 1), LeakCarousel.UNKNOWN);
    Runs.dueRefused(x, "calibrate(0, 0)", () -> x.calibrate(0, 0), LeakCarousel.BAD_VALUE);
    Runs.dueRefused(x, "calibrate(0, 100000)", () -> x.calibrate(0, 100000), LeakCarousel.BAD_VALUE);
    Runs.dueRefused(x, "calibrate(1, -1)", () -> x.calibrate(1, -1), LeakCarousel.BAD_VALUE);
    Runs.dueRefused(x, "calibrate(0, 1)", () -> x.calibrate(0, 1), LeakCarousel.NOT_POSSIBLE);
    Runs.dueAct(x, "calibrate(1, 1)", () -> x.calibrate(1, 1), 0);
    Runs.dueAct(x, "calibrate(3, 99999)", () -> x.calibrate(3, 99999), 0);
  }

  /** The factor's last digits hang on the master, the heads and the filling pressure. */
  private static void promise6CalibratedValues() {
    int[] masters = {1, 7, 333, 50000, 99999};
    for (int heads = 2; heads <= 8; heads++) {
      for (int master : masters) {
        Renewed x = new Renewed();
        x.build(heads);
        Runs.setPressure(x, 0, 123.456 * heads);
        x.equip(0, 137, 0);
        x.add(false, 0, 1);
        x.run(2 * heads);
        double gain = x.gauge(0, 0);
        Check.due("calibrate(0, " + master + ")", x.calibrate(0, master), 1);
        double p = Runs.decayed(123.456 * heads, master, 100, heads - 1);
        double expected = (123.456 * heads - p) * 100.0 / (heads - 1);
        Check.dueNumber("gauge(0, 1)", x.gauge(0, 1), expected / (expected * gain));
        x.add(false, 100, 3);
        x.run(2 * heads);
        double drop = 123.456 * heads - Runs.decayed(123.456 * heads, 100, 3, heads - 1);
        double factor = expected / (expected * gain);
        Check.dueNumber("value(1)", x.value(1), drop * 3 / (heads - 1) * gain * factor);
      }
    }
  }
}
