/** Promises 13 to 15: undo, keep, restore. */
public final class HistoryTest {
  public static void main(String[] args) {
    promise13Undo();
    promise13FifthStateDropsTheOldest();
    promise13RoundTheHistoryManyTimes();
    promise13LeavesTextAndSnapshot();
    promise14Keep();
    promise15Restore();
    promise15RestoreIsAnAct();
    Check.finish();
  }

  private static void promise13Undo() {
    Renewed x = new Renewed();
    Runs.dueRefused(x, "undo() of nothing", () -> x.undo(), LeakCarousel.NONE);
    String first = Runs.stateOf(x);
    x.build(5);
    x.equip(2, 30, 1);
    String second = Runs.stateOf(x);
    Runs.setPressure(x, 0, 321.0);
    Check.due("undo()", x.undo(), 2);
    Check.dueTrue("the state ahead of setPressure", second.equals(Runs.stateOf(x)));
    x.undo();
    Check.due("undo()", x.undo(), 0);
    Check.dueTrue("the first state", first.equals(Runs.stateOf(x)));
    Runs.dueRefused(x, "undo() of nothing", () -> x.undo(), LeakCarousel.NONE);
  }

  private static void promise13FifthStateDropsTheOldest() {
    Renewed x = new Renewed();
    String[] states = new String[6];
    for (int i = 0; i < 5; i++) {
      states[i] = Runs.stateOf(x);
      x.add(false, i, 1);
      Check.due("count(15)", x.count(15), Math.min(i + 1, 4));
    }
    for (int left = 3; left >= 0; left--) {
      Check.due("undo()", x.undo(), left);
      Check.dueTrue("state " + (left + 1), states[left + 1].equals(Runs.stateOf(x)));
    }
    Runs.dueRefused(x, "the oldest is dropped", () -> x.undo(), LeakCarousel.NONE);
    Check.due("count(2)", x.count(2), 1);
  }

  private static void promise13RoundTheHistoryManyTimes() {
    Renewed x = new Renewed();
    String[] states = new String[60];
    for (int i = 0; i < 50; i++) {
      states[i] = Runs.stateOf(x);
      x.add(i % 2 == 0, 40 + i % 20, 100);
    }
    x.run(7);
    Check.due("undo()", x.undo(), 3);
    Check.due("undo()", x.undo(), 2);
    Check.dueTrue("state 49", states[49].equals(Runs.stateOf(x)));
    Check.due("undo()", x.undo(), 1);
    Check.dueTrue("state 48", states[48].equals(Runs.stateOf(x)));
    x.run(40);
    x.run(40);
    Check.due("count(15)", x.count(15), 3);
    x.undo();
    x.undo();
    Check.dueTrue("state 48", states[48].equals(Runs.stateOf(x)));
    Check.due("undo()", x.undo(), 0);
    Check.dueTrue("state 47", states[47].equals(Runs.stateOf(x)));
  }

  private static void promise13LeavesTextAndSnapshot() {
    Renewed x = new Renewed();
    x.add(false, 1, 1);
    x.keep();
    Runs.write(x, "turn");
    x.add(false, 2, 2);
    Runs.write(x, "st");
    x.undo();
    Check.due("count(16)", x.count(16), 2);
    x.undo();
    Check.due("count(2)", x.count(2), 0);
    Check.due("restore()", x.restore(), 1);
    Check.due("count(16)", x.count(16), 2);
    x.type('e');
    x.type('p');
    Check.due("perform()", x.perform(), 0);
  }

  private static void promise14Keep() {
    Renewed x = new Renewed();
    Check.due("keep() of nothing", x.keep(), 0);
    Check.due("keep is no act", x.count(15), 0);
    x.add(false, 1, 1);
    x.add(true, 1, 1);
    String two = Runs.stateOf(x);
    Check.due("keep()", x.keep(), 2);
    Check.dueTrue("keep changes no state", two.equals(Runs.stateOf(x)));
    Check.due("count(15)", x.count(15), 2);
    x.run(3);
    x.build(7);
    Check.due("restore() of the latest snapshot", x.restore(), 2);
    Check.dueTrue("the snapshot", two.equals(Runs.stateOf(x)));
    x.add(false, 3, 3);
    Check.due("restore() again", x.restore(), 2);
    Check.dueTrue("the snapshot stays", two.equals(Runs.stateOf(x)));
  }

  private static void promise15Restore() {
    Renewed x = new Renewed();
    Runs.dueRefused(x, "restore() without a snapshot", () -> x.restore(), LeakCarousel.NONE);
    x.build(6);
    x.setInterval(3);
    Runs.setPressure(x, 0, 222.2);
    Runs.setPressure(x, 1, 11.0);
    Runs.setPressure(x, 2, 12.0);
    x.equip(4, 55, 1);
    x.calibrate(5, 77);
    Runs.read(x, "v50/100;p1/1;v501/1;p50/100;v9/9;p8/8;v7/7");
    x.run(20);
    String kept = Runs.stateOf(x);
    Check.due("keep()", x.keep(), 7);
    Runs.perform(x, "clear");
    Runs.perform(x, "stop");
    x.build(2);
    x.setInterval(4);
    Runs.setPressure(x, 0, 1.0);
    Runs.setPressure(x, 1, 1.0);
    Runs.setPressure(x, 2, 1.0);
    Runs.dueAct(x, "restore()", () -> x.restore(), 7);
    Check.dueTrue("the snapshot", kept.equals(Runs.stateOf(x)));
    x.run(11);
    String later = Runs.stateOf(x);
    x.restore();
    x.run(11);
    Check.dueTrue("what follows is the same", later.equals(Runs.stateOf(x)));
  }

  private static void promise15RestoreIsAnAct() {
    Renewed x = new Renewed();
    x.keep();
    Runs.dueAct(x, "restore() of the same state", () -> x.restore(), 0);
    x.add(false, 5, 5);
    Runs.dueAct(x, "restore()", () -> x.restore(), 0);
    Check.due("undo()", x.undo(), 2);
    Check.due("count(2)", x.count(2), 1);
  }
}
