/** Promises 7 and 8: add and run, with all that stands under STEPS. */
public final class StepsTest {
  public static void main(String[] args) {
    promise7Add();
    promise7Refused();
    promise7SixtyParts();
    promise8Refused();
    promise8StepsTellTheirTests();
    promise8HeadsComeInTurn();
    promise8PressureDecays();
    promise8ValueIsRoundedInOrder();
    promise8Burst();
    promise8BurstComesFirst();
    promise8Interval();
    promise8IntervalAheadOfLimits();
    promise8Limits();
    promise8LowerLimitAheadOfUpper();
    promise8RetestsOnOtherHeads();
    promise8ThirdRetestIsRejected();
    promise8RetestsOfBothCauses();
    promise8GainWears();
    promise8FixturesChooseFromTheRow();
    promise8FillingPressureChangesUnderWay();
    Check.finish();
  }

  private static void promise7Add() {
    Renewed x = new Renewed();
    Runs.dueAct(x, "add(false, 0, 1)", () -> x.add(false, 0, 1), 0);
    Runs.dueAct(x, "add(true, 99999, 999)", () -> x.add(true, 99999, 999), 1);
    int[] first = {0, 0, 1, Runs.WAITING, 0, 0, LeakCarousel.NONE, LeakCarousel.NONE, 0};
    int[] second = {1, 99999, 999, Runs.WAITING, 0, 0, LeakCarousel.NONE, LeakCarousel.NONE, 1};
    for (int what = 0; what < first.length; what++) {
      Check.due("part(0, " + what + ")", x.part(0, what), first[what]);
      Check.due("part(1, " + what + ")", x.part(1, what), second[what]);
    }
    Check.due("count(2)", x.count(2), 2);
    Check.due("count(3)", x.count(3), 2);
  }

  private static void promise7Refused() {
    Renewed x = new Renewed();
    int bad = LeakCarousel.BAD_VALUE;
    Runs.dueRefused(x, "add(false, -1, 1)", () -> x.add(false, -1, 1), bad);
    Runs.dueRefused(x, "add(false, 100000, 1)", () -> x.add(false, 100000, 1), bad);
    Runs.dueRefused(x, "add(true, 0, 0)", () -> x.add(true, 0, 0), bad);
    Runs.dueRefused(x, "add(true, 0, 1000)", () -> x.add(true, 0, 1000), bad);
    Runs.dueRefused(x, "add(true, 0, -1)", () -> x.add(true, 0, -1), bad);
    Runs.dueRefused(x, "add of extremes", () -> x.add(true, Integer.MIN_VALUE, Integer.MAX_VALUE), bad);
  }

  private static void promise7SixtyParts() {
    Renewed x = new Renewed();
    for (int i = 0; i < 60; i++) {
      Check.due("add", x.add(i % 2 == 0, i, i + 1), i);
    }
    Runs.dueRefused(x, "add of the 61st part", () -> x.add(true, 0, 1), LeakCarousel.FULL);
    Runs.dueRefused(x, "add of a bad 61st part", () -> x.add(true, 0, 0), LeakCarousel.BAD_VALUE);
    for (int i = 0; i < 60; i++) {
      Check.due("part(i, 0)", x.part(i, 0), i % 2 == 0 ? 1 : 0);
      Check.due("part(i, 1)", x.part(i, 1), i);
      Check.due("part(i, 2)", x.part(i, 2), i + 1);
      Check.due("part(i, 8)", x.part(i, 8), i);
    }
    // a part that has been tested still takes its place among the 60
    x.run(40);
    Check.dueTrue("some are accepted", x.count(5) > 0);
    Runs.dueRefused(x, "add of the 61st part", () -> x.add(true, 0, 1), LeakCarousel.FULL);
    x.undo();
    x.undo();
    Check.due("count(2) behind undo", x.count(2), 59);
    Check.due("add of the 60th part", x.add(true, 3, 4), 59);
    x.build(4);
    Check.due("add behind build", x.add(true, 3, 4), 0);
  }

  private static void promise8Refused() {
    Renewed x = new Renewed();
    x.add(false, 1, 1);
    int[] wrong = {0, 41, -1, Integer.MIN_VALUE, Integer.MAX_VALUE};
    for (int steps : wrong) {
      Runs.dueRefused(x, "run(" + steps + ")", () -> x.run(steps), LeakCarousel.BAD_VALUE);
    }
    Runs.dueAct(x, "run(1)", () -> x.run(1), 0);
    Runs.dueAct(x, "run(40)", () -> x.run(40), 1);
    Runs.dueAct(x, "run(40) of nothing", () -> x.run(40), 0);
    Check.due("count(1)", x.count(1), 81);
  }

  private static void promise8StepsTellTheirTests() {
    Renewed x = new Renewed();
    Runs.read(x, "v1/9;v1/9;v1/9;v1/9;v1/9");
    Check.due("run(4)", x.run(4), 0);
    Check.due("run(3)", x.run(3), 3);
    Check.due("run(5)", x.run(5), 2);
    Check.due("run(1)", x.run(1), 0);
    Check.due("count(7)", x.count(7), 5);
    Check.due("count(5)", x.count(5), 5);
  }

  private static void promise8HeadsComeInTurn() {
    for (int heads = 2; heads <= 8; heads++) {
      Renewed x = new Renewed();
      x.build(heads);
      for (int i = 0; i < 2 * heads; i++) {
        x.add(false, 0, 1);
      }
      for (int step = 0; step < 3 * heads; step++) {
        int here = step % heads;
        Check.due("head(here, 8)", x.head(here, 8), 0);
        Check.due("head(behind, 8)", x.head((step + heads - 1) % heads, 8), heads - 1);
        Check.due("run(1)", x.run(1), step < heads ? 0 : 1);
        Check.due("head(here, 3)", x.head(here, 3), step < 2 * heads ? step : LeakCarousel.NONE);
        Check.due("head(here, 4)", x.head(here, 4), step / heads);
        if (step >= heads) {
          Check.due("part(step - heads, 6)", x.part(step - heads, 6), here);
        }
      }
      Check.due("count(1)", x.count(1), 3 * heads);
    }
  }

  private static void promise8PressureDecays() {
    Renewed x = new Renewed();
    x.add(false, 123, 7);
    x.add(true, 60000, 9);
    x.run(1);
    Check.dueNumber("gauge(0, 3) when it is filled", x.gauge(0, 3), 500.0);
    for (int step = 1; step <= 3; step++) {
      x.run(1);
      Check.dueNumber("gauge(0, 2)", x.gauge(0, 2), 500.0);
      Check.dueNumber("gauge(0, 3)", x.gauge(0, 3), Runs.decayed(500.0, 123, 7, step));
      Check.dueNumber("gauge(1, 3)", x.gauge(1, 3), step == 1 ? 500.0 : 0.0);
    }
    Check.dueNumber("trace(1, 1)", x.trace(1, 1), 0.0);
    Check.dueNumber("trace(1, 2)", x.trace(1, 2), 0.0);
  }

  private static void promise8ValueIsRoundedInOrder() {
    for (int i = 0; i < 300; i++) {
      int heads = 2 + i % 7;
      int leak = i * 37 % 1000;
      int volume = 1 + i * 53 % 999;
      Renewed x = new Renewed();
      x.build(heads);
      Runs.setPressure(x, 0, 700.0 / (1 + i % 11));
      x.equip(0, 991, 0);
      x.add(false, 3, 3);
      x.run(2 * heads);
      x.calibrate(0, 4321);
      x.add(true, leak, volume);
      double gain = x.gauge(0, 0);
      double factor = x.gauge(0, 1);
      x.run(2 * heads);
      double filling = 700.0 / (1 + i % 11);
      double drop = filling - Runs.decayed(filling, leak, volume, heads - 1);
      double measured = drop * volume / (heads - 1) * gain;
      Check.dueNumber("value(1)", x.value(1), measured * factor);
    }
  }

  /** Half of the pressure is left by 500/1 on two heads: not less, so no burst. */
  private static void promise8Burst() {
    Check.due("at half of it", causeOnTwoHeads(500, 1), 2);
    Check.due("below half of it", causeOnTwoHeads(501, 1), 1);
    Check.due("all of it is gone", causeOnTwoHeads(99999, 1), 1);
    Renewed x = new Renewed();
    x.build(2);
    x.add(true, 501, 1);
    x.run(3);
    Check.due("part(0, 3)", x.part(0, 3), Runs.REJECTED);
    Check.due("head(0, 6)", x.head(0, 6), 1);
    Check.due("head(0, 5)", x.head(0, 5), 0);
    Check.due("head(0, 7)", x.head(0, 7), 0);
    Check.due("count(10)", x.count(10), 1);
    Check.dueNumber("value(0)", x.value(0), (500.0 - Runs.decayed(500.0, 501, 1, 1)) * 1 / 1 * 1.0);
  }

  private static int causeOnTwoHeads(int leak, int volume) {
    Renewed x = new Renewed();
    x.build(2);
    x.add(false, leak, volume);
    x.run(3);
    return x.part(0, 7);
  }

  private static void promise8BurstComesFirst() {
    Renewed x = new Renewed();
    x.build(2);
    x.setInterval(1);
    Runs.setPressure(x, 1, 1000000.0);
    x.equip(1, 0, 2);
    Runs.read(x, "v501/1;v501/1;v1/1;v1/1");
    x.run(3);
    Check.due("below the lower limit, but a burst", x.part(0, 7), 1);
    x.run(2);
    Check.due("behind the interval, but a burst", x.part(1, 7), 1);
    x.run(2);
    Check.due("behind the interval", x.part(2, 3), Runs.WAITING);
    Check.due("count(8)", x.count(8), 1);
  }

  private static void promise8Interval() {
    Renewed x = new Renewed();
    x.build(2);
    x.setInterval(2);
    x.equip(1, 0, 1);
    Runs.read(x, "p1/1;p1/1;p1/1;p1/1");
    x.run(5);
    Check.due("the test that reaches the interval", x.part(1, 3), Runs.ACCEPTED);
    x.run(2);
    Check.due("the test behind the interval", x.part(2, 3), Runs.WAITING);
    Check.due("part(2, 5)", x.part(2, 5), 1);
    Check.due("part(2, 8)", x.part(2, 8), 0);
    Check.due("head(0, 7)", x.head(0, 7), 1);
    Check.due("head(0, 5)", x.head(0, 5), 2);
    Check.due("head(0, 2)", x.head(0, 2), 3);
    Check.due("head(0, 3)", x.head(0, 3), 3);
    x.run(2);
    Check.due("count(8)", x.count(8), 2);
    Check.due("head(0, 3)", x.head(0, 3), LeakCarousel.NONE);
    Check.due("calibrate", x.calibrate(0, 5), 4);
    x.equip(1, 0, 2);
    x.run(2);
    Check.due("head(1, 3)", x.head(1, 3), 3);
    x.run(1);
    x.run(1);
    Check.due("accepted on the other head", x.part(3, 3), Runs.ACCEPTED);
  }

  private static void promise8IntervalAheadOfLimits() {
    Renewed x = new Renewed();
    x.build(2);
    x.setInterval(1);
    x.equip(1, 0, 2);
    Runs.read(x, "v1/1;v1/1;v400/9;v25/9");
    x.run(3);
    Check.due("part(0, 3)", x.part(0, 3), Runs.ACCEPTED);
    x.run(2);
    Check.due("it would be accepted", x.part(1, 5), 1);
    x.run(2);
    Check.due("it would be rejected for 2", x.part(2, 5), 1);
    Check.due("it would be rejected for 2", x.part(2, 3), Runs.WAITING);
    x.run(2);
    Check.due("the row", x.part(3, 8), 0);
    Check.due("the row", x.part(2, 8), 1);
    Check.due("the row", x.part(1, 8), 2);
  }

  private static void promise8Limits() {
    Renewed x = new Renewed();
    x.build(2);
    // the value is leak / 2, and every step to it is exact
    Runs.read(x, "v40/1;v41/1;v60/1;v61/1;v0/1");
    x.equip(1, 0, 2);
    x.run(3);
    Check.dueNumber("value(0)", x.value(0), 20.0);
    Check.due("at the lower limit", x.part(0, 3), Runs.ACCEPTED);
    x.run(2);
    Check.due("above the lower limit", x.part(1, 3), Runs.WAITING);
    x.run(2);
    Check.dueNumber("value(2)", x.value(2), 30.0);
    Check.due("at the upper limit", x.part(2, 3), Runs.WAITING);
    x.run(2);
    Check.due("above the upper limit", x.part(3, 3), Runs.REJECTED);
    Check.due("above the upper limit", x.part(3, 7), 2);
    x.run(2);
    Check.due("no leak", x.part(4, 3), Runs.ACCEPTED);
    int[] counts = {2, 11, 5, 2, 0, 2, 1, 5, 2, 20, 0, 1, 0, 0, 0};
    for (int what = 0; what < counts.length; what++) {
      Check.due("count(" + what + ")", x.count(what), counts[what]);
    }
    Check.due("head(0, 5)", x.head(0, 5), 2);
    Check.due("head(0, 6)", x.head(0, 6), 1);
    Check.due("head(0, 7)", x.head(0, 7), 2);
  }

  private static void promise8LowerLimitAheadOfUpper() {
    Renewed x = new Renewed();
    x.build(2);
    Runs.setPressure(x, 1, 50.0);
    Runs.setPressure(x, 2, 10.0);
    Runs.read(x, "v60/100;v101/100");
    x.run(4);
    Check.due("above the upper, below the lower", x.part(0, 3), Runs.ACCEPTED);
    Check.due("above both", x.part(1, 7), 2);
  }

  private static void promise8RetestsOnOtherHeads() {
    Renewed x = new Renewed();
    x.build(2);
    Runs.read(x, "v50/100;v1/1;v1/1");
    x.run(3);
    Check.due("part(0, 3)", x.part(0, 3), Runs.WAITING);
    Check.due("it is in front", x.part(0, 8), 0);
    Check.due("the other one is taken", x.head(0, 3), 2);
    x.run(1);
    Check.due("the other head takes it", x.head(1, 3), 0);
    Check.due("part(0, 8)", x.part(0, 8), LeakCarousel.NONE);
    x.run(2);
    Check.due("part(0, 5)", x.part(0, 5), 2);
    Check.due("part(0, 6)", x.part(0, 6), 1);
    x.run(1);
    Check.due("only the latest head is barred", x.head(0, 3), 0);
  }

  private static void promise8ThirdRetestIsRejected() {
    Renewed x = new Renewed();
    x.add(true, 50, 100);
    x.run(5);
    Check.due("part(0, 5)", x.part(0, 5), 1);
    x.run(1);
    Check.due("head(1, 3)", x.head(1, 3), 0);
    x.run(4);
    Check.due("the second retest", x.part(0, 5), 2);
    Check.due("the second retest", x.part(0, 3), Runs.WAITING);
    Check.due("the second retest", x.part(0, 7), LeakCarousel.NONE);
    x.run(1);
    Check.due("head(2, 3)", x.head(2, 3), 0);
    x.run(4);
    Check.due("the third is none", x.part(0, 5), 2);
    Check.due("the third is none", x.part(0, 3), Runs.REJECTED);
    Check.due("part(0, 7)", x.part(0, 7), 3);
    Check.due("part(0, 4)", x.part(0, 4), 3);
    Check.due("count(7)", x.count(7), 3);
    Check.due("count(8)", x.count(8), 2);
    Check.due("count(12)", x.count(12), 1);
    Check.due("head(2, 6)", x.head(2, 6), 1);
    Check.due("head(2, 7)", x.head(2, 7), 0);
    Check.due("head(1, 7)", x.head(1, 7), 1);
  }

  private static void promise8RetestsOfBothCauses() {
    Renewed x = new Renewed();
    x.build(2);
    x.setInterval(1);
    Runs.read(x, "v1/1;v1/1;v50/100");
    x.run(4);
    Check.due("both are accepted", x.count(5), 2);
    x.run(12);
    Check.due("part(2, 5)", x.part(2, 5), 2);
    Check.due("part(2, 7)", x.part(2, 7), 4);
    Check.due("count(13)", x.count(13), 1);
    x.build(2);
    x.setInterval(99);
    x.add(false, 50, 100);
    x.run(6);
    Check.due("retested for the cause 3", x.part(0, 5), 2);
    x.setInterval(1);
    x.equip(0, 0, 2);
    x.equip(0, 0, 0);
    x.run(3);
    Check.due("rejected for the cause 4", x.part(0, 7), 4);
  }

  private static void promise8GainWears() {
    Renewed x = new Renewed();
    x.build(2);
    x.equip(0, 3, 0);
    x.equip(1, 1000, 2);
    double gain = 1.0;
    for (int i = 0; i < 20; i++) {
      x.add(false, i % 2 == 0 ? 30 : 501, i % 2 == 0 ? 100 : 1);
    }
    x.run(2);
    for (int i = 0; i < 20; i++) {
      Check.dueNumber("gauge(0, 0)", x.gauge(0, 0), gain);
      x.run(2);
      gain = gain * (1.0 - 3 / 1000000.0);
    }
    Check.dueNumber("gauge(0, 0)", x.gauge(0, 0), gain);
    x.run(10);
    Check.dueNumber("without tests", x.gauge(0, 0), gain);
    Check.dueNumber("without tests", x.gauge(1, 0), 1.0);
  }

  private static void promise8FixturesChooseFromTheRow() {
    Renewed x = new Renewed();
    x.equip(0, 0, 2);
    x.equip(1, 0, 1);
    x.equip(2, 0, 1);
    Runs.read(x, "v1/1;v1/2;p1/3;p1/4;v1/5");
    x.run(1);
    Check.due("a pipe", x.head(0, 3), 2);
    Check.due("the row", x.part(0, 8), 0);
    Check.due("the row", x.part(1, 8), 1);
    Check.due("the row", x.part(3, 8), 2);
    Check.due("the row", x.part(4, 8), 3);
    x.run(1);
    Check.due("a valve", x.head(1, 3), 0);
    x.run(1);
    Check.due("a valve", x.head(2, 3), 1);
    x.run(1);
    Check.due("any part", x.head(3, 3), 3);
    Check.due("the row", x.part(4, 8), 0);
    x.run(1);
    Check.due("no pipe is left", x.head(0, 3), LeakCarousel.NONE);
    Check.due("count(4)", x.count(4), 3);
    Check.due("count(3)", x.count(3), 1);
  }

  private static void promise8FillingPressureChangesUnderWay() {
    Renewed x = new Renewed();
    x.build(3);
    x.add(false, 10, 10);
    x.run(1);
    Runs.setPressure(x, 0, 1000.0);
    Check.dueNumber("gauge(0, 2)", x.gauge(0, 2), 500.0);
    x.run(3);
    double drop = 500.0 - Runs.decayed(500.0, 10, 10, 2);
    Check.dueNumber("value(0)", x.value(0), drop * 10 / 2 * 1.0 * 1.0);
    Check.due("no burst by the new pressure", x.part(0, 3), Runs.ACCEPTED);
    x.add(false, 10, 10);
    x.run(1);
    Check.dueNumber("gauge(1, 2)", x.gauge(1, 2), 1000.0);
  }
}
